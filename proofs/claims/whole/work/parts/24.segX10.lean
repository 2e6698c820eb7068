section PGS
variable {S : pg_S} {Λ : pg_L} {d : Nat} {M : pg_M} {P : Option Value → pg_M → Prop}

theorem sX10_feed_0 {v1 : Int64} {v3 : Int64} {v5 : Int64} {Q0 : pg_M → Prop} {Q1 : pg_M → Prop} {Q2 : pg_M → Prop}
    (h0 : pg_isX10 Λ)
    (h1 : pg_isX7 Λ)
    (e0 : pg_Ev S Λ YX7_addSigns d [.ref 1, .long v1] M (fun r M' => r = none ∧ Q0 M'))
    (e1 : ∀ M1, Q0 M1 → pg_Ev S Λ YX7_addSigns d [.ref 1, .long v3] M1 (fun r M' => r = none ∧ Q1 M'))
    (e2 : ∀ M1, Q0 M1 → ∀ M2, Q1 M2 → pg_Ev S Λ YX7_addSigns d [.ref 1, .long v5] M2 (fun r M' => r = none ∧ Q2 M'))
    (k0 : ∀ M1, Q0 M1 → ∀ M2, Q1 M2 → ∀ M3, Q2 M3 → P (some (.int (M3.1 1 1))) M3) :
    pg_At S Λ YX10_feed (d + 1) 0 [(0, .ref 0), (1, .long v1), (3, .long v3), (5, .long v5)] [] M P := by
  refine pg_aload_n (pc := 0) (i := 0) (j := 0) (x := 0) dX10_feed_0 rfl rfl ?_
  refine gfX10_10 (pc := 1) rfl h0 dX10_feed_1 ?_
  refine pg_lload_n (pc := 4) (i := 1) (j := 1) (x := v1) dX10_feed_4 rfl rfl ?_
  refine pg_callV (pc := 5) (As := [.long v1]) (st := []) okX7_addSigns lkX10_85 rfl h1.1 rfl (Nat.le_refl _) (Nat.le_of_ble_eq_true rfl) e0 dX10_feed_5 (fun r1 M1 w1 => ?_)
  obtain ⟨rfl, w1⟩ := w1
  refine pg_aload_n (pc := 8) (i := 0) (j := 0) (x := 0) dX10_feed_8 rfl rfl ?_
  refine gfX10_10 (pc := 9) rfl h0 dX10_feed_9 ?_
  refine pg_lload_n (pc := 12) (i := 3) (j := 2) (x := v3) dX10_feed_12 rfl rfl ?_
  refine pg_callV (pc := 13) (As := [.long v3]) (st := []) okX7_addSigns lkX10_85 rfl h1.1 rfl (Nat.le_refl _) (Nat.le_of_ble_eq_true rfl) (e1 M1 w1) dX10_feed_13 (fun r2 M2 w2 => ?_)
  obtain ⟨rfl, w2⟩ := w2
  refine pg_aload_n (pc := 16) (i := 0) (j := 0) (x := 0) dX10_feed_16 rfl rfl ?_
  refine gfX10_10 (pc := 17) rfl h0 dX10_feed_17 ?_
  refine pg_lload (pc := 20) (i := 5) (j := 3) (x := v5) dX10_feed_20 rfl ?_
  refine pg_callV (pc := 22) (As := [.long v5]) (st := []) okX7_addSigns lkX10_85 rfl h1.1 rfl (Nat.le_refl _) (Nat.le_of_ble_eq_true rfl) (e2 M1 w1 M2 w2) dX10_feed_22 (fun r3 M3 w3 => ?_)
  obtain ⟨rfl, w3⟩ := w3
  refine pg_aload_n (pc := 25) (i := 0) (j := 0) (x := 0) dX10_feed_25 rfl rfl ?_
  refine gfX10_10 (pc := 26) rfl h0 dX10_feed_26 ?_
  refine gfX10_89 (pc := 29) rfl h1 dX10_feed_29 ?_
  exact pg_iret (pc := 32) rfl dX10_feed_32 (k0 M1 w1 M2 w2 M3 w3)
theorem oX10_feed {d : Nat} {v1 : Int64} {v3 : Int64} {v5 : Int64} (h : pg_At S Λ YX10_feed d 0 [(0, .ref 0), (1, .long v1), (3, .long v3), (5, .long v5)] [] M P) : pg_Ev S Λ YX10_feed d [.ref 0, .long v1, .long v3, .long v5] M P := pg_Ev.of (by decide) (by first | decide | exact Nat.le_of_ble_eq_true rfl) h
theorem sX10_line_0  {Q0 : Int32 → pg_M → Prop} {Q1 : pg_M → Prop} {Q2 : pg_M → Prop} {Q3 : pg_M → Prop} {Q4 : pg_M → Prop}
    (h0 : pg_isX10 Λ)
    (h1 : pg_isX7 Λ)
    (h2 : pg_isX9 Λ 3)
    (h3 : pg_isX2 Λ 13)
    (h4 : pg_isX6 Λ)
    (e0 : pg_Ev S Λ YX7_readLine d [.ref 1, .ref (M.2.2 0 9)] M (fun r M' => ∃ x, r = some (.int x) ∧ Q0 x M'))
    (e1 : ∀ x1 M1, Q0 x1 M1 → (x1 = 0) → pg_Ev S Λ YX9_begin d [.ref 3, .ref ((pg_sr (pg_sr M1 0 9 (M1.2.2 0 8)) 0 8 (M1.2.2 0 9)).2.2 0 8)] (pg_sr (pg_sr M1 0 9 (M1.2.2 0 8)) 0 8 (M1.2.2 0 9)) (fun r M' => r = none ∧ Q1 M'))
    (b0 : ∀ x1 M1, Q0 x1 M1 → (x1 = 0) → ∀ M2, Q1 M2 → pg_isX1 Λ (M2.2.2 0 10))
    (e2 : ∀ x1 M1, Q0 x1 M1 → (x1 = 0) → ∀ M2, Q1 M2 → pg_Ev S Λ YX1_clear d [.ref (M2.2.2 0 10)] M2 (fun r M' => r = none ∧ Q2 M'))
    (e3 : ∀ x1 M1, Q0 x1 M1 → (x1 = 0) → ∀ M2, Q1 M2 → ∀ M3, Q2 M3 → pg_Ev S Λ YX2_clear d [.ref 13] M3 (fun r M' => r = none ∧ Q3 M'))
    (e4 : ∀ x1 M1, Q0 x1 M1 → (x1 = 0) → ∀ M2, Q1 M2 → ∀ M3, Q2 M3 → ∀ M4, Q3 M4 → pg_Ev S Λ YX6_clear d [.ref 19] M4 (fun r M' => r = none ∧ Q4 M'))
    (k0 : ∀ x1 M1, Q0 x1 M1 → (x1 = 0) → ∀ M2, Q1 M2 → ∀ M3, Q2 M3 → ∀ M4, Q3 M4 → ∀ M5, Q4 M5 → P (some (.int 0)) M5)
    (k1 : ∀ x1 M1, Q0 x1 M1 → (¬ x1 = 0) → P (some (.int x1)) M1) :
    pg_At S Λ YX10_line (d + 1) 0 [(0, .ref 0)] [] M P := by
  refine pg_aload_n (pc := 0) (i := 0) (j := 0) (x := 0) dX10_line_0 rfl rfl ?_
  refine gfX10_10 (pc := 1) rfl h0 dX10_line_1 ?_
  refine pg_aload_n (pc := 4) (i := 0) (j := 0) (x := 0) dX10_line_4 rfl rfl ?_
  refine gfX10_68 (pc := 5) rfl h0 dX10_line_5 ?_
  refine pg_callV (pc := 8) (As := [.ref (M.2.2 0 9)]) (st := []) okX7_readLine lkX10_93 rfl h1.1 rfl (Nat.le_refl _) (Nat.le_of_ble_eq_true rfl) e0 dX10_line_8 (fun r1 M1 w1 => ?_)
  obtain ⟨x1, rfl, w1⟩ := w1
  refine pg_istore_n (pc := 11) (i := 1) (ls' := [(1, .int x1), (0, .ref 0)]) dX10_line_11 rfl (by decide) rfl ?_
  refine pg_iload_n (pc := 12) (i := 1) (j := 0) (x := x1) dX10_line_12 rfl rfl ?_
  refine pg_if_eq (pc := 13) (tgt := 18) dX10_line_13 (by decide) (fun c0 => ?_) (fun c0 => ?_)
  · skip
    refine pg_aload_n (pc := 18) (i := 0) (j := 1) (x := 0) dX10_line_18 rfl rfl ?_
    refine gfX10_68 (pc := 19) rfl h0 dX10_line_19 ?_
    refine pg_astore_n (pc := 22) (i := 2) (ls' := [(2, .ref (M1.2.2 0 9)), (1, .int x1), (0, .ref 0)]) dX10_line_22 rfl (by decide) rfl ?_
    refine pg_aload_n (pc := 23) (i := 0) (j := 2) (x := 0) dX10_line_23 rfl rfl ?_
    refine pg_aload_n (pc := 24) (i := 0) (j := 2) (x := 0) dX10_line_24 rfl rfl ?_
    refine gfX10_64 (pc := 25) rfl h0 dX10_line_25 ?_
    refine pfX10_68 (pc := 28) rfl h0 dX10_line_28 ?_
    refine pg_aload_n (pc := 31) (i := 0) (j := 2) (x := 0) dX10_line_31 rfl rfl ?_
    refine pg_aload_n (pc := 32) (i := 2) (j := 0) (x := M1.2.2 0 9) dX10_line_32 rfl rfl ?_
    refine pfX10_64 (pc := 33) rfl h0 dX10_line_33 ?_
    refine pg_aload_n (pc := 36) (i := 0) (j := 2) (x := 0) dX10_line_36 rfl rfl ?_
    refine gfX10_19 (pc := 37) rfl h0 dX10_line_37 ?_
    refine pg_aload_n (pc := 40) (i := 0) (j := 2) (x := 0) dX10_line_40 rfl rfl ?_
    refine gfX10_64 (pc := 41) rfl h0 dX10_line_41 ?_
    refine pg_callV (pc := 44) (As := [.ref ((pg_sr (pg_sr M1 0 9 (M1.2.2 0 8)) 0 8 (M1.2.2 0 9)).2.2 0 8)]) (st := []) okX9_begin lkX10_97 rfl h2.1 rfl (Nat.le_refl _) (Nat.le_of_ble_eq_true rfl) (e1 x1 M1 w1 c0) dX10_line_44 (fun r2 M2 w2 => ?_)
    obtain ⟨rfl, w2⟩ := w2
    refine pg_aload_n (pc := 47) (i := 0) (j := 2) (x := 0) dX10_line_47 rfl rfl ?_
    refine gfX10_74 (pc := 48) rfl h0 dX10_line_48 ?_
    refine pg_callV (pc := 51) (As := []) (st := []) okX1_clear lkX10_101 rfl (b0 x1 M1 w1 c0 M2 w2).1 rfl (Nat.le_refl _) (Nat.le_of_ble_eq_true rfl) (e2 x1 M1 w1 c0 M2 w2) dX10_line_51 (fun r3 M3 w3 => ?_)
    obtain ⟨rfl, w3⟩ := w3
    refine pg_aload_n (pc := 54) (i := 0) (j := 2) (x := 0) dX10_line_54 rfl rfl ?_
    refine gfX10_29 (pc := 55) rfl h0 dX10_line_55 ?_
    refine pg_callV (pc := 58) (As := []) (st := []) okX2_clear lkX10_104 rfl h3.1 rfl (Nat.le_refl _) (Nat.le_of_ble_eq_true rfl) (e3 x1 M1 w1 c0 M2 w2 M3 w3) dX10_line_58 (fun r4 M4 w4 => ?_)
    obtain ⟨rfl, w4⟩ := w4
    refine pg_aload_n (pc := 61) (i := 0) (j := 2) (x := 0) dX10_line_61 rfl rfl ?_
    refine gfX10_36 (pc := 62) rfl h0 dX10_line_62 ?_
    refine pg_callV (pc := 65) (As := []) (st := []) okX6_clear lkX10_105 rfl h4.1 rfl (Nat.le_refl _) (Nat.le_of_ble_eq_true rfl) (e4 x1 M1 w1 c0 M2 w2 M3 w3 M4 w4) dX10_line_65 (fun r5 M5 w5 => ?_)
    obtain ⟨rfl, w5⟩ := w5
    refine pg_iconst (pc := 68) (v := 0) dX10_line_68 (by decide) ?_
    exact pg_iret (pc := 69) rfl dX10_line_69 (k0 x1 M1 w1 c0 M2 w2 M3 w3 M4 w4 M5 w5)
  · skip
    refine pg_iload_n (pc := 16) (i := 1) (j := 0) (x := x1) dX10_line_16 rfl rfl ?_
    exact pg_iret (pc := 17) rfl dX10_line_17 (k1 x1 M1 w1 c0)
theorem oX10_line {d : Nat}  (h : pg_At S Λ YX10_line d 0 [(0, .ref 0)] [] M P) : pg_Ev S Λ YX10_line d [.ref 0] M P := pg_Ev.of (by decide) (by first | decide | exact Nat.le_of_ble_eq_true rfl) h
theorem sX10_day_0  {Q0 : Int32 → pg_M → Prop}
    (h0 : pg_isX10 Λ)
    (h1 : pg_isX7 Λ)
    (e0 : pg_Ev S Λ YX7_readDay d [.ref 1, .ref (M.2.2 0 8), .ref (M.2.2 0 11)] M (fun r M' => ∃ x, r = some (.int x) ∧ Q0 x M'))
    (k0 : ∀ x1 M1, Q0 x1 M1 → (x1 = 0) → P (some (.int 0)) (pg_sr (pg_sr M1 0 11 (M1.2.2 0 10)) 0 10 (M1.2.2 0 11)))
    (k1 : ∀ x1 M1, Q0 x1 M1 → (¬ x1 = 0) → P (some (.int x1)) M1) :
    pg_At S Λ YX10_day (d + 1) 0 [(0, .ref 0)] [] M P := by
  refine pg_aload_n (pc := 0) (i := 0) (j := 0) (x := 0) dX10_day_0 rfl rfl ?_
  refine gfX10_10 (pc := 1) rfl h0 dX10_day_1 ?_
  refine pg_aload_n (pc := 4) (i := 0) (j := 0) (x := 0) dX10_day_4 rfl rfl ?_
  refine gfX10_64 (pc := 5) rfl h0 dX10_day_5 ?_
  refine pg_aload_n (pc := 8) (i := 0) (j := 0) (x := 0) dX10_day_8 rfl rfl ?_
  refine gfX10_78 (pc := 9) rfl h0 dX10_day_9 ?_
  refine pg_callV (pc := 12) (As := [.ref (M.2.2 0 8), .ref (M.2.2 0 11)]) (st := []) okX7_readDay lkX10_106 rfl h1.1 rfl (Nat.le_refl _) (Nat.le_of_ble_eq_true rfl) e0 dX10_day_12 (fun r1 M1 w1 => ?_)
  obtain ⟨x1, rfl, w1⟩ := w1
  refine pg_istore_n (pc := 15) (i := 1) (ls' := [(1, .int x1), (0, .ref 0)]) dX10_day_15 rfl (by decide) rfl ?_
  refine pg_iload_n (pc := 16) (i := 1) (j := 0) (x := x1) dX10_day_16 rfl rfl ?_
  refine pg_if_eq (pc := 17) (tgt := 22) dX10_day_17 (by decide) (fun c0 => ?_) (fun c0 => ?_)
  · skip
    refine pg_aload_n (pc := 22) (i := 0) (j := 1) (x := 0) dX10_day_22 rfl rfl ?_
    refine gfX10_78 (pc := 23) rfl h0 dX10_day_23 ?_
    refine pg_astore_n (pc := 26) (i := 2) (ls' := [(2, .ref (M1.2.2 0 11)), (1, .int x1), (0, .ref 0)]) dX10_day_26 rfl (by decide) rfl ?_
    refine pg_aload_n (pc := 27) (i := 0) (j := 2) (x := 0) dX10_day_27 rfl rfl ?_
    refine pg_aload_n (pc := 28) (i := 0) (j := 2) (x := 0) dX10_day_28 rfl rfl ?_
    refine gfX10_74 (pc := 29) rfl h0 dX10_day_29 ?_
    refine pfX10_78 (pc := 32) rfl h0 dX10_day_32 ?_
    refine pg_aload_n (pc := 35) (i := 0) (j := 2) (x := 0) dX10_day_35 rfl rfl ?_
    refine pg_aload_n (pc := 36) (i := 2) (j := 0) (x := M1.2.2 0 11) dX10_day_36 rfl rfl ?_
    refine pfX10_74 (pc := 37) rfl h0 dX10_day_37 ?_
    refine pg_iconst (pc := 40) (v := 0) dX10_day_40 (by decide) ?_
    exact pg_iret (pc := 41) rfl dX10_day_41 (k0 x1 M1 w1 c0)
  · skip
    refine pg_iload_n (pc := 20) (i := 1) (j := 0) (x := x1) dX10_day_20 rfl rfl ?_
    exact pg_iret (pc := 21) rfl dX10_day_21 (k1 x1 M1 w1 c0)
theorem oX10_day {d : Nat}  (h : pg_At S Λ YX10_day d 0 [(0, .ref 0)] [] M P) : pg_Ev S Λ YX10_day d [.ref 0] M P := pg_Ev.of (by decide) (by first | decide | exact Nat.le_of_ble_eq_true rfl) h
theorem sX10_cloth_0 {v1 : Int32} {v2 : Int32} {Q0 : Int32 → pg_M → Prop} {Q1 : Int32 → pg_M → Prop} {Q2 : Int32 → pg_M → Prop} {Q3 : Int32 → pg_M → Prop} {Q4 : Int32 → pg_M → Prop} {Q5 : Int32 → pg_M → Prop}
    (h0 : pg_isX10 Λ)
    (h1 : pg_isX5 Λ (M.2.2 0 8))
    (h2 : pg_isX9 Λ 3)
    (e0 : pg_Ev S Λ YX5_has d [.ref (M.2.2 0 8), .int v1] M (fun r M' => ∃ x, r = some (.int x) ∧ Q0 x M'))
    (b0 : ∀ x1 M1, Q0 x1 M1 → (¬ x1 = 0) → (v2 = 0) → pg_isX5 Λ (M1.2.2 0 8))
    (b1 : ∀ x1 M1, Q0 x1 M1 → (¬ x1 = 0) → (v2 = 0) → vp_in v1 6)
    (k0 : ∀ x1 M1, Q0 x1 M1 → (¬ x1 = 0) → (v2 = 0) → P (some (.int (M1.1 (M1.2.2 0 8 + 2) v1.toNatClampNeg))) M1)
    (b2 : ∀ x1 M1, Q0 x1 M1 → (¬ x1 = 0) → (¬ v2 = 0) → (v2 = 1) → vp_in v1 6)
    (k1 : ∀ x1 M1, Q0 x1 M1 → (¬ x1 = 0) → (¬ v2 = 0) → (v2 = 1) → P (some (.int (M1.1 4 v1.toNatClampNeg))) M1)
    (b3 : ∀ x1 M1, Q0 x1 M1 → (¬ x1 = 0) → (¬ v2 = 0) → (¬ v2 = 1) → (v2 = 2) → vp_in v1 6)
    (k2 : ∀ x1 M1, Q0 x1 M1 → (¬ x1 = 0) → (¬ v2 = 0) → (¬ v2 = 1) → (v2 = 2) → P (some (.int (M1.1 5 v1.toNatClampNeg))) M1)
    (b4 : ∀ x1 M1, Q0 x1 M1 → (¬ x1 = 0) → (¬ v2 = 0) → (¬ v2 = 1) → (¬ v2 = 2) → (v2 = 3) → vp_in v1 6)
    (k3 : ∀ x1 M1, Q0 x1 M1 → (¬ x1 = 0) → (¬ v2 = 0) → (¬ v2 = 1) → (¬ v2 = 2) → (v2 = 3) → P (some (.int (M1.1 6 v1.toNatClampNeg))) M1)
    (e1 : ∀ x1 M1, Q0 x1 M1 → (¬ x1 = 0) → (¬ v2 = 0) → (¬ v2 = 1) → (¬ v2 = 2) → (¬ v2 = 3) → (v2 = 4) → pg_Ev S Λ YX9_isLaw d [.ref 3, .ref (M1.2.2 0 8), .int v1] M1 (fun r M' => ∃ x, r = some (.int x) ∧ Q1 x M'))
    (k4 : ∀ x1 M1, Q0 x1 M1 → (¬ x1 = 0) → (¬ v2 = 0) → (¬ v2 = 1) → (¬ v2 = 2) → (¬ v2 = 3) → (v2 = 4) → ∀ x2 M2, Q1 x2 M2 → (x2 = 0) → P (some (.int 0)) M2)
    (k5 : ∀ x1 M1, Q0 x1 M1 → (¬ x1 = 0) → (¬ v2 = 0) → (¬ v2 = 1) → (¬ v2 = 2) → (¬ v2 = 3) → (v2 = 4) → ∀ x2 M2, Q1 x2 M2 → (¬ x2 = 0) → P (some (.int 1)) M2)
    (e2 : ∀ x1 M1, Q0 x1 M1 → (¬ x1 = 0) → (¬ v2 = 0) → (¬ v2 = 1) → (¬ v2 = 2) → (¬ v2 = 3) → (¬ v2 = 4) → (v2 = 5) → pg_Ev S Λ YX9_isTurned d [.ref 3, .int v1] M1 (fun r M' => ∃ x, r = some (.int x) ∧ Q2 x M'))
    (k6 : ∀ x1 M1, Q0 x1 M1 → (¬ x1 = 0) → (¬ v2 = 0) → (¬ v2 = 1) → (¬ v2 = 2) → (¬ v2 = 3) → (¬ v2 = 4) → (v2 = 5) → ∀ x3 M3, Q2 x3 M3 → (x3 = 0) → P (some (.int 0)) M3)
    (k7 : ∀ x1 M1, Q0 x1 M1 → (¬ x1 = 0) → (¬ v2 = 0) → (¬ v2 = 1) → (¬ v2 = 2) → (¬ v2 = 3) → (¬ v2 = 4) → (v2 = 5) → ∀ x3 M3, Q2 x3 M3 → (¬ x3 = 0) → P (some (.int 1)) M3)
    (e3 : ∀ x1 M1, Q0 x1 M1 → (¬ x1 = 0) → (¬ v2 = 0) → (¬ v2 = 1) → (¬ v2 = 2) → (¬ v2 = 3) → (¬ v2 = 4) → (¬ v2 = 5) → (v2 = 6) → pg_Ev S Λ YX9_roomOf d [.ref 3, .ref (M1.2.2 0 8), .int v1] M1 (fun r M' => ∃ x, r = some (.int x) ∧ Q3 x M'))
    (k8 : ∀ x1 M1, Q0 x1 M1 → (¬ x1 = 0) → (¬ v2 = 0) → (¬ v2 = 1) → (¬ v2 = 2) → (¬ v2 = 3) → (¬ v2 = 4) → (¬ v2 = 5) → (v2 = 6) → ∀ x4 M4, Q3 x4 M4 → P (some (.int x4)) M4)
    (b5 : ∀ x1 M1, Q0 x1 M1 → (¬ x1 = 0) → (¬ v2 = 0) → (¬ v2 = 1) → (¬ v2 = 2) → (¬ v2 = 3) → (¬ v2 = 4) → (¬ v2 = 5) → (¬ v2 = 6) → (v2 = 7) → vp_in v1 6)
    (b6 : ∀ x1 M1, Q0 x1 M1 → (¬ x1 = 0) → (¬ v2 = 0) → (¬ v2 = 1) → (¬ v2 = 2) → (¬ v2 = 3) → (¬ v2 = 4) → (¬ v2 = 5) → (¬ v2 = 6) → (v2 = 7) → pg_isX5 Λ (M1.2.2 0 8))
    (e4 : ∀ x1 M1, Q0 x1 M1 → (¬ x1 = 0) → (¬ v2 = 0) → (¬ v2 = 1) → (¬ v2 = 2) → (¬ v2 = 3) → (¬ v2 = 4) → (¬ v2 = 5) → (¬ v2 = 6) → (v2 = 7) → pg_Ev S Λ YX5_windAt d [.ref (M1.2.2 0 8), .int (M1.1 3 5)] M1 (fun r M' => ∃ x, r = some (.int x) ∧ Q4 x M'))
    (e5 : ∀ x1 M1, Q0 x1 M1 → (¬ x1 = 0) → (¬ v2 = 0) → (¬ v2 = 1) → (¬ v2 = 2) → (¬ v2 = 3) → (¬ v2 = 4) → (¬ v2 = 5) → (¬ v2 = 6) → (v2 = 7) → ∀ x5 M5, Q4 x5 M5 → pg_Ev S Λ YX5_pullOn d [.ref (M1.2.2 0 8), .int v1, .int (M1.1 4 v1.toNatClampNeg), .int x5] M5 (fun r M' => ∃ x, r = some (.int x) ∧ Q5 x M'))
    (k9 : ∀ x1 M1, Q0 x1 M1 → (¬ x1 = 0) → (¬ v2 = 0) → (¬ v2 = 1) → (¬ v2 = 2) → (¬ v2 = 3) → (¬ v2 = 4) → (¬ v2 = 5) → (¬ v2 = 6) → (v2 = 7) → ∀ x5 M5, Q4 x5 M5 → ∀ x6 M6, Q5 x6 M6 → P (some (.int x6)) M6)
    (k10 : ∀ x1 M1, Q0 x1 M1 → (¬ x1 = 0) → (¬ v2 = 0) → (¬ v2 = 1) → (¬ v2 = 2) → (¬ v2 = 3) → (¬ v2 = 4) → (¬ v2 = 5) → (¬ v2 = 6) → (¬ v2 = 7) → P (some (.int (-1))) M1)
    (k11 : ∀ x1 M1, Q0 x1 M1 → (x1 = 0) → P (some (.int (-1))) M1) :
    pg_At S Λ YX10_cloth (d + 1) 0 [(0, .ref 0), (1, .int v1), (2, .int v2)] [] M P := by
  refine pg_aload_n (pc := 0) (i := 0) (j := 0) (x := 0) dX10_cloth_0 rfl rfl ?_
  refine gfX10_64 (pc := 1) rfl h0 dX10_cloth_1 ?_
  refine pg_iload_n (pc := 4) (i := 1) (j := 1) (x := v1) dX10_cloth_4 rfl rfl ?_
  refine pg_callV (pc := 5) (As := [.int v1]) (st := []) okX5_has lkX10_110 rfl h1.1 rfl (Nat.le_refl _) (Nat.le_of_ble_eq_true rfl) e0 dX10_cloth_5 (fun r1 M1 w1 => ?_)
  obtain ⟨x1, rfl, w1⟩ := w1
  refine pg_if_ne (pc := 8) (tgt := 13) dX10_cloth_8 (by decide) (fun c0 => ?_) (fun c0 => ?_)
  · skip
    refine pg_iload_n (pc := 13) (i := 2) (j := 2) (x := v2) dX10_cloth_13 rfl rfl ?_
    by_cases c1 : v2 = 0
    · refine pg_tableIn (pc := 14) (tgt := 60) dX10_cloth_14 (by rw [c1]; decide) (by rw [c1]; decide) (by rw [c1]; rfl) (by decide) ?_
      refine pg_aload_n (pc := 60) (i := 0) (j := 0) (x := 0) dX10_cloth_60 rfl rfl ?_
      refine gfX10_64 (pc := 61) rfl h0 dX10_cloth_61 ?_
      refine gfX10_114 (pc := 64) rfl (b0 x1 M1 w1 c0 c1) dX10_cloth_64 ?_
      refine pg_iload_n (pc := 67) (i := 1) (j := 1) (x := v1) dX10_cloth_67 rfl rfl ?_
      refine pg_iald (pc := 68) (b0 x1 M1 w1 c0 c1).2.2.1 (b1 x1 M1 w1 c0 c1) dX10_cloth_68 ?_
      exact pg_iret (pc := 69) rfl dX10_cloth_69 (k0 x1 M1 w1 c0 c1)
    by_cases c2 : v2 = 1
    · refine pg_tableIn (pc := 14) (tgt := 70) dX10_cloth_14 (by rw [c2]; decide) (by rw [c2]; decide) (by rw [c2]; rfl) (by decide) ?_
      refine pg_aload_n (pc := 70) (i := 0) (j := 0) (x := 0) dX10_cloth_70 rfl rfl ?_
      refine gfX10_19 (pc := 71) rfl h0 dX10_cloth_71 ?_
      refine gfX10_118 (pc := 74) rfl h2 dX10_cloth_74 ?_
      refine pg_iload_n (pc := 77) (i := 1) (j := 1) (x := v1) dX10_cloth_77 rfl rfl ?_
      refine pg_iald (pc := 78) h2.2.1 (b2 x1 M1 w1 c0 c1 c2) dX10_cloth_78 ?_
      exact pg_iret (pc := 79) rfl dX10_cloth_79 (k1 x1 M1 w1 c0 c1 c2)
    by_cases c3 : v2 = 2
    · refine pg_tableIn (pc := 14) (tgt := 80) dX10_cloth_14 (by rw [c3]; decide) (by rw [c3]; decide) (by rw [c3]; rfl) (by decide) ?_
      refine pg_aload_n (pc := 80) (i := 0) (j := 0) (x := 0) dX10_cloth_80 rfl rfl ?_
      refine gfX10_19 (pc := 81) rfl h0 dX10_cloth_81 ?_
      refine gfX10_121 (pc := 84) rfl h2 dX10_cloth_84 ?_
      refine pg_iload_n (pc := 87) (i := 1) (j := 1) (x := v1) dX10_cloth_87 rfl rfl ?_
      refine pg_iald (pc := 88) h2.2.2.1 (b3 x1 M1 w1 c0 c1 c2 c3) dX10_cloth_88 ?_
      exact pg_iret (pc := 89) rfl dX10_cloth_89 (k2 x1 M1 w1 c0 c1 c2 c3)
    by_cases c4 : v2 = 3
    · refine pg_tableIn (pc := 14) (tgt := 90) dX10_cloth_14 (by rw [c4]; decide) (by rw [c4]; decide) (by rw [c4]; rfl) (by decide) ?_
      refine pg_aload_n (pc := 90) (i := 0) (j := 0) (x := 0) dX10_cloth_90 rfl rfl ?_
      refine gfX10_19 (pc := 91) rfl h0 dX10_cloth_91 ?_
      refine gfX10_124 (pc := 94) rfl h2 dX10_cloth_94 ?_
      refine pg_iload_n (pc := 97) (i := 1) (j := 1) (x := v1) dX10_cloth_97 rfl rfl ?_
      refine pg_iald (pc := 98) h2.2.2.2.1 (b4 x1 M1 w1 c0 c1 c2 c3 c4) dX10_cloth_98 ?_
      exact pg_iret (pc := 99) rfl dX10_cloth_99 (k3 x1 M1 w1 c0 c1 c2 c3 c4)
    by_cases c5 : v2 = 4
    · refine pg_tableIn (pc := 14) (tgt := 100) dX10_cloth_14 (by rw [c5]; decide) (by rw [c5]; decide) (by rw [c5]; rfl) (by decide) ?_
      refine pg_aload_n (pc := 100) (i := 0) (j := 0) (x := 0) dX10_cloth_100 rfl rfl ?_
      refine gfX10_19 (pc := 101) rfl h0 dX10_cloth_101 ?_
      refine pg_aload_n (pc := 104) (i := 0) (j := 0) (x := 0) dX10_cloth_104 rfl rfl ?_
      refine gfX10_64 (pc := 105) rfl h0 dX10_cloth_105 ?_
      refine pg_iload_n (pc := 108) (i := 1) (j := 1) (x := v1) dX10_cloth_108 rfl rfl ?_
      refine pg_callV (pc := 109) (As := [.ref (M1.2.2 0 8), .int v1]) (st := []) okX9_isLaw lkX10_127 rfl h2.1 rfl (Nat.le_refl _) (Nat.le_of_ble_eq_true rfl) (e1 x1 M1 w1 c0 c1 c2 c3 c4 c5) dX10_cloth_109 (fun r2 M2 w2 => ?_)
      obtain ⟨x2, rfl, w2⟩ := w2
      refine pg_if_eq (pc := 112) (tgt := 119) dX10_cloth_112 (by decide) (fun c6 => ?_) (fun c6 => ?_)
      · skip
        refine pg_iconst (pc := 119) (v := 0) dX10_cloth_119 (by decide) ?_
        exact pg_iret (pc := 120) rfl dX10_cloth_120 (k4 x1 M1 w1 c0 c1 c2 c3 c4 c5 x2 M2 w2 c6)
      · skip
        refine pg_iconst (pc := 115) (v := 1) dX10_cloth_115 (by decide) ?_
        refine pg_goto (pc := 116) (tgt := 120) dX10_cloth_116 (by decide) ?_
        exact pg_iret (pc := 120) rfl dX10_cloth_120 (k5 x1 M1 w1 c0 c1 c2 c3 c4 c5 x2 M2 w2 c6)
    by_cases c6 : v2 = 5
    · refine pg_tableIn (pc := 14) (tgt := 121) dX10_cloth_14 (by rw [c6]; decide) (by rw [c6]; decide) (by rw [c6]; rfl) (by decide) ?_
      refine pg_aload_n (pc := 121) (i := 0) (j := 0) (x := 0) dX10_cloth_121 rfl rfl ?_
      refine gfX10_19 (pc := 122) rfl h0 dX10_cloth_122 ?_
      refine pg_iload_n (pc := 125) (i := 1) (j := 1) (x := v1) dX10_cloth_125 rfl rfl ?_
      refine pg_callV (pc := 126) (As := [.int v1]) (st := []) okX9_isTurned lkX10_131 rfl h2.1 rfl (Nat.le_refl _) (Nat.le_of_ble_eq_true rfl) (e2 x1 M1 w1 c0 c1 c2 c3 c4 c5 c6) dX10_cloth_126 (fun r3 M3 w3 => ?_)
      obtain ⟨x3, rfl, w3⟩ := w3
      refine pg_if_eq (pc := 129) (tgt := 136) dX10_cloth_129 (by decide) (fun c7 => ?_) (fun c7 => ?_)
      · skip
        refine pg_iconst (pc := 136) (v := 0) dX10_cloth_136 (by decide) ?_
        exact pg_iret (pc := 137) rfl dX10_cloth_137 (k6 x1 M1 w1 c0 c1 c2 c3 c4 c5 c6 x3 M3 w3 c7)
      · skip
        refine pg_iconst (pc := 132) (v := 1) dX10_cloth_132 (by decide) ?_
        refine pg_goto (pc := 133) (tgt := 137) dX10_cloth_133 (by decide) ?_
        exact pg_iret (pc := 137) rfl dX10_cloth_137 (k7 x1 M1 w1 c0 c1 c2 c3 c4 c5 c6 x3 M3 w3 c7)
    by_cases c7 : v2 = 6
    · refine pg_tableIn (pc := 14) (tgt := 138) dX10_cloth_14 (by rw [c7]; decide) (by rw [c7]; decide) (by rw [c7]; rfl) (by decide) ?_
      refine pg_aload_n (pc := 138) (i := 0) (j := 0) (x := 0) dX10_cloth_138 rfl rfl ?_
      refine gfX10_19 (pc := 139) rfl h0 dX10_cloth_139 ?_
      refine pg_aload_n (pc := 142) (i := 0) (j := 0) (x := 0) dX10_cloth_142 rfl rfl ?_
      refine gfX10_64 (pc := 143) rfl h0 dX10_cloth_143 ?_
      refine pg_iload_n (pc := 146) (i := 1) (j := 1) (x := v1) dX10_cloth_146 rfl rfl ?_
      refine pg_callV (pc := 147) (As := [.ref (M1.2.2 0 8), .int v1]) (st := []) okX9_roomOf lkX10_134 rfl h2.1 rfl (Nat.le_refl _) (Nat.le_of_ble_eq_true rfl) (e3 x1 M1 w1 c0 c1 c2 c3 c4 c5 c6 c7) dX10_cloth_147 (fun r4 M4 w4 => ?_)
      obtain ⟨x4, rfl, w4⟩ := w4
      exact pg_iret (pc := 150) rfl dX10_cloth_150 (k8 x1 M1 w1 c0 c1 c2 c3 c4 c5 c6 c7 x4 M4 w4)
    by_cases c8 : v2 = 7
    · refine pg_tableIn (pc := 14) (tgt := 151) dX10_cloth_14 (by rw [c8]; decide) (by rw [c8]; decide) (by rw [c8]; rfl) (by decide) ?_
      refine pg_aload_n (pc := 151) (i := 0) (j := 0) (x := 0) dX10_cloth_151 rfl rfl ?_
      refine gfX10_64 (pc := 152) rfl h0 dX10_cloth_152 ?_
      refine pg_iload_n (pc := 155) (i := 1) (j := 1) (x := v1) dX10_cloth_155 rfl rfl ?_
      refine pg_aload_n (pc := 156) (i := 0) (j := 0) (x := 0) dX10_cloth_156 rfl rfl ?_
      refine gfX10_19 (pc := 157) rfl h0 dX10_cloth_157 ?_
      refine gfX10_118 (pc := 160) rfl h2 dX10_cloth_160 ?_
      refine pg_iload_n (pc := 163) (i := 1) (j := 1) (x := v1) dX10_cloth_163 rfl rfl ?_
      refine pg_iald (pc := 164) h2.2.1 (b5 x1 M1 w1 c0 c1 c2 c3 c4 c5 c6 c7 c8) dX10_cloth_164 ?_
      refine pg_aload_n (pc := 165) (i := 0) (j := 0) (x := 0) dX10_cloth_165 rfl rfl ?_
      refine gfX10_64 (pc := 166) rfl h0 dX10_cloth_166 ?_
      refine pg_aload_n (pc := 169) (i := 0) (j := 0) (x := 0) dX10_cloth_169 rfl rfl ?_
      refine gfX10_19 (pc := 170) rfl h0 dX10_cloth_170 ?_
      refine gfX10_138 (pc := 173) rfl h2 dX10_cloth_173 ?_
      refine pg_callV (pc := 176) (As := [.int (M1.1 3 5)]) (st := [.int (M1.1 4 v1.toNatClampNeg), .int v1, .ref (M1.2.2 0 8)]) okX5_windAt lkX10_141 rfl (b6 x1 M1 w1 c0 c1 c2 c3 c4 c5 c6 c7 c8).1 rfl (Nat.le_refl _) (Nat.le_of_ble_eq_true rfl) (e4 x1 M1 w1 c0 c1 c2 c3 c4 c5 c6 c7 c8) dX10_cloth_176 (fun r5 M5 w5 => ?_)
      obtain ⟨x5, rfl, w5⟩ := w5
      refine pg_callV (pc := 179) (As := [.int v1, .int (M1.1 4 v1.toNatClampNeg), .int x5]) (st := []) okX5_pullOn lkX10_145 rfl (b6 x1 M1 w1 c0 c1 c2 c3 c4 c5 c6 c7 c8).1 rfl (Nat.le_refl _) (Nat.le_of_ble_eq_true rfl) (e5 x1 M1 w1 c0 c1 c2 c3 c4 c5 c6 c7 c8 x5 M5 w5) dX10_cloth_179 (fun r6 M6 w6 => ?_)
      obtain ⟨x6, rfl, w6⟩ := w6
      exact pg_iret (pc := 182) rfl dX10_cloth_182 (k9 x1 M1 w1 c0 c1 c2 c3 c4 c5 c6 c7 c8 x5 M5 w5 x6 M6 w6)
    have g0 : v2.toInt ≠ 0 := pg_ne c1 (by decide)
    have g1 : v2.toInt ≠ 1 := pg_ne c2 (by decide)
    have g2 : v2.toInt ≠ 2 := pg_ne c3 (by decide)
    have g3 : v2.toInt ≠ 3 := pg_ne c4 (by decide)
    have g4 : v2.toInt ≠ 4 := pg_ne c5 (by decide)
    have g5 : v2.toInt ≠ 5 := pg_ne c6 (by decide)
    have g6 : v2.toInt ≠ 6 := pg_ne c7 (by decide)
    have g7 : v2.toInt ≠ 7 := pg_ne c8 (by decide)
    refine pg_tableOut (pc := 14) (tgt := 183) dX10_cloth_14 (by omega) (by decide) ?_
    refine pg_iconst (pc := 183) (v := (-1)) dX10_cloth_183 (by decide) ?_
    exact pg_iret (pc := 184) rfl dX10_cloth_184 (k10 x1 M1 w1 c0 c1 c2 c3 c4 c5 c6 c7 c8)
  · skip
    refine pg_iconst (pc := 11) (v := (-1)) dX10_cloth_11 (by decide) ?_
    exact pg_iret (pc := 12) rfl dX10_cloth_12 (k11 x1 M1 w1 c0)
theorem oX10_cloth {d : Nat} {v1 : Int32} {v2 : Int32} (h : pg_At S Λ YX10_cloth d 0 [(0, .ref 0), (1, .int v1), (2, .int v2)] [] M P) : pg_Ev S Λ YX10_cloth d [.ref 0, .int v1, .int v2] M P := pg_Ev.of (by decide) (by first | decide | exact Nat.le_of_ble_eq_true rfl) h
theorem sX10_peg_0 {v1 : Int32} {v2 : Int32} {Q0 : Int32 → pg_M → Prop}
    (h0 : pg_isX10 Λ)
    (h1 : pg_isX9 Λ 3)
    (k0 : (v1 < 0) → P (some (.int (-2))) M)
    (k1 : (¬ v1 < 0) → (v1 < (M.1 3 4)) → (¬ v2 = 0) → (¬ v2 = 1) → P (some (.int (-2))) M)
    (e0 : (¬ v1 < 0) → (v1 < (M.1 3 4)) → (¬ v2 = 0) → (v2 = 1) → pg_Ev S Λ YX9_heldBy d [.ref 3, .int v1] M (fun r M' => ∃ x, r = some (.int x) ∧ Q0 x M'))
    (k2 : (¬ v1 < 0) → (v1 < (M.1 3 4)) → (¬ v2 = 0) → (v2 = 1) → ∀ x1 M1, Q0 x1 M1 → P (some (.int x1)) M1)
    (b0 : (¬ v1 < 0) → (v1 < (M.1 3 4)) → (v2 = 0) → vp_in v1 8)
    (k3 : (¬ v1 < 0) → (v1 < (M.1 3 4)) → (v2 = 0) → P (some (.int (M.1 7 v1.toNatClampNeg))) M)
    (k4 : (¬ v1 < 0) → (¬ v1 < (M.1 3 4)) → P (some (.int (-2))) M) :
    pg_At S Λ YX10_peg (d + 1) 0 [(0, .ref 0), (1, .int v1), (2, .int v2)] [] M P := by
  refine pg_iload_n (pc := 0) (i := 1) (j := 1) (x := v1) dX10_peg_0 rfl rfl ?_
  refine pg_if_lt (pc := 1) (tgt := 15) dX10_peg_1 (by decide) (fun c0 => ?_) (fun c0 => ?_)
  · skip
    refine pg_bipush (pc := 15) (v := (-2)) dX10_peg_15 (by decide) ?_
    exact pg_iret (pc := 17) rfl dX10_peg_17 (k0 c0)
  · skip
    refine pg_iload_n (pc := 4) (i := 1) (j := 1) (x := v1) dX10_peg_4 rfl rfl ?_
    refine pg_aload_n (pc := 5) (i := 0) (j := 0) (x := 0) dX10_peg_5 rfl rfl ?_
    refine gfX10_19 (pc := 6) rfl h0 dX10_peg_6 ?_
    refine gfX10_149 (pc := 9) rfl h1 dX10_peg_9 ?_
    refine pg_icmp_lt (pc := 12) (tgt := 18) dX10_peg_12 (by decide) (fun c1 => ?_) (fun c1 => ?_)
    · skip
      refine pg_iload_n (pc := 18) (i := 2) (j := 2) (x := v2) dX10_peg_18 rfl rfl ?_
      refine pg_if_ne (pc := 19) (tgt := 32) dX10_peg_19 (by decide) (fun c2 => ?_) (fun c2 => ?_)
      · skip
        refine pg_iload_n (pc := 32) (i := 2) (j := 2) (x := v2) dX10_peg_32 rfl rfl ?_
        refine pg_iconst (pc := 33) (v := 1) dX10_peg_33 (by decide) ?_
        refine pg_icmp_ne (pc := 34) (tgt := 48) dX10_peg_34 (by decide) (fun c3 => ?_) (fun c3 => ?_)
        · skip
          refine pg_bipush (pc := 48) (v := (-2)) dX10_peg_48 (by decide) ?_
          exact pg_iret (pc := 50) rfl dX10_peg_50 (k1 c0 c1 c2 c3)
        · skip
          refine pg_aload_n (pc := 37) (i := 0) (j := 0) (x := 0) dX10_peg_37 rfl rfl ?_
          refine gfX10_19 (pc := 38) rfl h0 dX10_peg_38 ?_
          refine pg_iload_n (pc := 41) (i := 1) (j := 1) (x := v1) dX10_peg_41 rfl rfl ?_
          refine pg_callV (pc := 42) (As := [.int v1]) (st := []) okX9_heldBy lkX10_155 rfl h1.1 rfl (Nat.le_refl _) (Nat.le_of_ble_eq_true rfl) (e0 c0 c1 c2 c3) dX10_peg_42 (fun r1 M1 w1 => ?_)
          obtain ⟨x1, rfl, w1⟩ := w1
          refine pg_goto (pc := 45) (tgt := 50) dX10_peg_45 (by decide) ?_
          exact pg_iret (pc := 50) rfl dX10_peg_50 (k2 c0 c1 c2 c3 x1 M1 w1)
      · skip
        refine pg_aload_n (pc := 22) (i := 0) (j := 0) (x := 0) dX10_peg_22 rfl rfl ?_
        refine gfX10_19 (pc := 23) rfl h0 dX10_peg_23 ?_
        refine gfX10_152 (pc := 26) rfl h1 dX10_peg_26 ?_
        refine pg_iload_n (pc := 29) (i := 1) (j := 1) (x := v1) dX10_peg_29 rfl rfl ?_
        refine pg_iald (pc := 30) h1.2.2.2.2 (b0 c0 c1 c2) dX10_peg_30 ?_
        exact pg_iret (pc := 31) rfl dX10_peg_31 (k3 c0 c1 c2)
    · skip
      refine pg_bipush (pc := 15) (v := (-2)) dX10_peg_15 (by decide) ?_
      exact pg_iret (pc := 17) rfl dX10_peg_17 (k4 c0 c1)
theorem oX10_peg {d : Nat} {v1 : Int32} {v2 : Int32} (h : pg_At S Λ YX10_peg d 0 [(0, .ref 0), (1, .int v1), (2, .int v2)] [] M P) : pg_Ev S Λ YX10_peg d [.ref 0, .int v1, .int v2] M P := pg_Ev.of (by decide) (by first | decide | exact Nat.le_of_ble_eq_true rfl) h
theorem sX10_free_0  {Q0 : Int32 → pg_M → Prop}
    (h0 : pg_isX10 Λ)
    (h1 : pg_isX9 Λ 3)
    (e0 : pg_Ev S Λ YX9_freePegs d [.ref 3] M (fun r M' => ∃ x, r = some (.int x) ∧ Q0 x M'))
    (k0 : ∀ x1 M1, Q0 x1 M1 → P (some (.int x1)) M1) :
    pg_At S Λ YX10_free (d + 1) 0 [(0, .ref 0)] [] M P := by
  refine pg_aload_n (pc := 0) (i := 0) (j := 0) (x := 0) dX10_free_0 rfl rfl ?_
  refine gfX10_19 (pc := 1) rfl h0 dX10_free_1 ?_
  refine pg_callV (pc := 4) (As := []) (st := []) okX9_freePegs lkX10_158 rfl h1.1 rfl (Nat.le_refl _) (Nat.le_of_ble_eq_true rfl) e0 dX10_free_4 (fun r1 M1 w1 => ?_)
  obtain ⟨x1, rfl, w1⟩ := w1
  exact pg_iret (pc := 7) rfl dX10_free_7 (k0 x1 M1 w1)
theorem oX10_free {d : Nat}  (h : pg_At S Λ YX10_free d 0 [(0, .ref 0)] [] M P) : pg_Ev S Λ YX10_free d [.ref 0] M P := pg_Ev.of (by decide) (by first | decide | exact Nat.le_of_ble_eq_true rfl) h
theorem sX10_laws_0  {Q0 : Int32 → pg_M → Prop}
    (h0 : pg_isX10 Λ)
    (h1 : pg_isX9 Λ 3)
    (e0 : pg_Ev S Λ YX9_lawBits d [.ref 3, .ref (M.2.2 0 8)] M (fun r M' => ∃ x, r = some (.int x) ∧ Q0 x M'))
    (k0 : ∀ x1 M1, Q0 x1 M1 → P (some (.int x1)) M1) :
    pg_At S Λ YX10_laws (d + 1) 0 [(0, .ref 0)] [] M P := by
  refine pg_aload_n (pc := 0) (i := 0) (j := 0) (x := 0) dX10_laws_0 rfl rfl ?_
  refine gfX10_19 (pc := 1) rfl h0 dX10_laws_1 ?_
  refine pg_aload_n (pc := 4) (i := 0) (j := 0) (x := 0) dX10_laws_4 rfl rfl ?_
  refine gfX10_64 (pc := 5) rfl h0 dX10_laws_5 ?_
  refine pg_callV (pc := 8) (As := [.ref (M.2.2 0 8)]) (st := []) okX9_lawBits lkX10_162 rfl h1.1 rfl (Nat.le_refl _) (Nat.le_of_ble_eq_true rfl) e0 dX10_laws_8 (fun r1 M1 w1 => ?_)
  obtain ⟨x1, rfl, w1⟩ := w1
  exact pg_iret (pc := 11) rfl dX10_laws_11 (k0 x1 M1 w1)
theorem oX10_laws {d : Nat}  (h : pg_At S Λ YX10_laws d 0 [(0, .ref 0)] [] M P) : pg_Ev S Λ YX10_laws d [.ref 0] M P := pg_Ev.of (by decide) (by first | decide | exact Nat.le_of_ble_eq_true rfl) h
theorem sX10_hang_0 {v1 : Int32} {v2 : Int32} {Q0 : pg_M → Prop} {Q1 : Int32 → pg_M → Prop} {Q2 : pg_M → Prop} {Q3 : Int32 → pg_M → Prop}
    (h0 : pg_isX10 Λ)
    (h1 : pg_isX6 Λ)
    (h2 : pg_isX9 Λ 3)
    (e0 : pg_Ev S Λ YX6_draft d [.ref 19, .ref 3] M (fun r M' => r = none ∧ Q0 M'))
    (e1 : ∀ M1, Q0 M1 → pg_Ev S Λ YX9_hangUp d [.ref 3, .ref (M1.2.2 0 8), .int v1, .int v2] M1 (fun r M' => ∃ x, r = some (.int x) ∧ Q1 x M'))
    (e2 : ∀ M1, Q0 M1 → ∀ x2 M2, Q1 x2 M2 → (¬ x2 = 0) → pg_Ev S Λ YX6_keepDraft d [.ref 19] M2 (fun r M' => r = none ∧ Q2 M'))
    (e3 : ∀ M1, Q0 M1 → ∀ x2 M2, Q1 x2 M2 → (¬ x2 = 0) → ∀ M3, Q2 M3 → pg_Ev S Λ YX9_roomLeft d [.ref 3, .ref (M3.2.2 0 8)] M3 (fun r M' => ∃ x, r = some (.int x) ∧ Q3 x M'))
    (k0 : ∀ M1, Q0 M1 → ∀ x2 M2, Q1 x2 M2 → (¬ x2 = 0) → ∀ M3, Q2 M3 → ∀ x4 M4, Q3 x4 M4 → P (some (.int x4)) M4)
    (k1 : ∀ M1, Q0 M1 → ∀ x2 M2, Q1 x2 M2 → (x2 = 0) → P (some (.int (-1))) M2) :
    pg_At S Λ YX10_hang (d + 1) 0 [(0, .ref 0), (1, .int v1), (2, .int v2)] [] M P := by
  refine pg_aload_n (pc := 0) (i := 0) (j := 0) (x := 0) dX10_hang_0 rfl rfl ?_
  refine gfX10_36 (pc := 1) rfl h0 dX10_hang_1 ?_
  refine pg_aload_n (pc := 4) (i := 0) (j := 0) (x := 0) dX10_hang_4 rfl rfl ?_
  refine gfX10_19 (pc := 5) rfl h0 dX10_hang_5 ?_
  refine pg_callV (pc := 8) (As := [.ref 3]) (st := []) okX6_draft lkX10_165 rfl h1.1 rfl (Nat.le_refl _) (Nat.le_of_ble_eq_true rfl) e0 dX10_hang_8 (fun r1 M1 w1 => ?_)
  obtain ⟨rfl, w1⟩ := w1
  refine pg_aload_n (pc := 11) (i := 0) (j := 0) (x := 0) dX10_hang_11 rfl rfl ?_
  refine gfX10_19 (pc := 12) rfl h0 dX10_hang_12 ?_
  refine pg_aload_n (pc := 15) (i := 0) (j := 0) (x := 0) dX10_hang_15 rfl rfl ?_
  refine gfX10_64 (pc := 16) rfl h0 dX10_hang_16 ?_
  refine pg_iload_n (pc := 19) (i := 1) (j := 1) (x := v1) dX10_hang_19 rfl rfl ?_
  refine pg_iload_n (pc := 20) (i := 2) (j := 2) (x := v2) dX10_hang_20 rfl rfl ?_
  refine pg_callV (pc := 21) (As := [.ref (M1.2.2 0 8), .int v1, .int v2]) (st := []) okX9_hangUp lkX10_169 rfl h2.1 rfl (Nat.le_refl _) (Nat.le_of_ble_eq_true rfl) (e1 M1 w1) dX10_hang_21 (fun r2 M2 w2 => ?_)
  obtain ⟨x2, rfl, w2⟩ := w2
  refine pg_if_ne (pc := 24) (tgt := 29) dX10_hang_24 (by decide) (fun c0 => ?_) (fun c0 => ?_)
  · skip
    refine pg_aload_n (pc := 29) (i := 0) (j := 0) (x := 0) dX10_hang_29 rfl rfl ?_
    refine gfX10_36 (pc := 30) rfl h0 dX10_hang_30 ?_
    refine pg_callV (pc := 33) (As := []) (st := []) okX6_keepDraft lkX10_173 rfl h1.1 rfl (Nat.le_refl _) (Nat.le_of_ble_eq_true rfl) (e2 M1 w1 x2 M2 w2 c0) dX10_hang_33 (fun r3 M3 w3 => ?_)
    obtain ⟨rfl, w3⟩ := w3
    refine pg_aload_n (pc := 36) (i := 0) (j := 0) (x := 0) dX10_hang_36 rfl rfl ?_
    refine gfX10_19 (pc := 37) rfl h0 dX10_hang_37 ?_
    refine pg_aload_n (pc := 40) (i := 0) (j := 0) (x := 0) dX10_hang_40 rfl rfl ?_
    refine gfX10_64 (pc := 41) rfl h0 dX10_hang_41 ?_
    refine pg_callV (pc := 44) (As := [.ref (M3.2.2 0 8)]) (st := []) okX9_roomLeft lkX10_176 rfl h2.1 rfl (Nat.le_refl _) (Nat.le_of_ble_eq_true rfl) (e3 M1 w1 x2 M2 w2 c0 M3 w3) dX10_hang_44 (fun r4 M4 w4 => ?_)
    obtain ⟨x4, rfl, w4⟩ := w4
    exact pg_iret (pc := 47) rfl dX10_hang_47 (k0 M1 w1 x2 M2 w2 c0 M3 w3 x4 M4 w4)
  · skip
    refine pg_iconst (pc := 27) (v := (-1)) dX10_hang_27 (by decide) ?_
    exact pg_iret (pc := 28) rfl dX10_hang_28 (k1 M1 w1 x2 M2 w2 c0)
theorem oX10_hang {d : Nat} {v1 : Int32} {v2 : Int32} (h : pg_At S Λ YX10_hang d 0 [(0, .ref 0), (1, .int v1), (2, .int v2)] [] M P) : pg_Ev S Λ YX10_hang d [.ref 0, .int v1, .int v2] M P := pg_Ev.of (by decide) (by first | decide | exact Nat.le_of_ble_eq_true rfl) h
theorem sX10_take_0 {v1 : Int32} {Q0 : pg_M → Prop} {Q1 : Int32 → pg_M → Prop} {Q2 : pg_M → Prop}
    (h0 : pg_isX10 Λ)
    (h1 : pg_isX6 Λ)
    (h2 : pg_isX9 Λ 3)
    (e0 : pg_Ev S Λ YX6_draft d [.ref 19, .ref 3] M (fun r M' => r = none ∧ Q0 M'))
    (e1 : ∀ M1, Q0 M1 → pg_Ev S Λ YX9_takeIn d [.ref 3, .ref (M1.2.2 0 8), .int v1] M1 (fun r M' => ∃ x, r = some (.int x) ∧ Q1 x M'))
    (e2 : ∀ M1, Q0 M1 → ∀ x2 M2, Q1 x2 M2 → (¬ x2 = 0) → pg_Ev S Λ YX6_keepDraft d [.ref 19] M2 (fun r M' => r = none ∧ Q2 M'))
    (k0 : ∀ M1, Q0 M1 → ∀ x2 M2, Q1 x2 M2 → (¬ x2 = 0) → ∀ M3, Q2 M3 → P (some (.int 1)) M3)
    (k1 : ∀ M1, Q0 M1 → ∀ x2 M2, Q1 x2 M2 → (x2 = 0) → P (some (.int 0)) M2) :
    pg_At S Λ YX10_take (d + 1) 0 [(0, .ref 0), (1, .int v1)] [] M P := by
  refine pg_aload_n (pc := 0) (i := 0) (j := 0) (x := 0) dX10_take_0 rfl rfl ?_
  refine gfX10_36 (pc := 1) rfl h0 dX10_take_1 ?_
  refine pg_aload_n (pc := 4) (i := 0) (j := 0) (x := 0) dX10_take_4 rfl rfl ?_
  refine gfX10_19 (pc := 5) rfl h0 dX10_take_5 ?_
  refine pg_callV (pc := 8) (As := [.ref 3]) (st := []) okX6_draft lkX10_165 rfl h1.1 rfl (Nat.le_refl _) (Nat.le_of_ble_eq_true rfl) e0 dX10_take_8 (fun r1 M1 w1 => ?_)
  obtain ⟨rfl, w1⟩ := w1
  refine pg_aload_n (pc := 11) (i := 0) (j := 0) (x := 0) dX10_take_11 rfl rfl ?_
  refine gfX10_19 (pc := 12) rfl h0 dX10_take_12 ?_
  refine pg_aload_n (pc := 15) (i := 0) (j := 0) (x := 0) dX10_take_15 rfl rfl ?_
  refine gfX10_64 (pc := 16) rfl h0 dX10_take_16 ?_
  refine pg_iload_n (pc := 19) (i := 1) (j := 1) (x := v1) dX10_take_19 rfl rfl ?_
  refine pg_callV (pc := 20) (As := [.ref (M1.2.2 0 8), .int v1]) (st := []) okX9_takeIn lkX10_179 rfl h2.1 rfl (Nat.le_refl _) (Nat.le_of_ble_eq_true rfl) (e1 M1 w1) dX10_take_20 (fun r2 M2 w2 => ?_)
  obtain ⟨x2, rfl, w2⟩ := w2
  refine pg_if_ne (pc := 23) (tgt := 28) dX10_take_23 (by decide) (fun c0 => ?_) (fun c0 => ?_)
  · skip
    refine pg_aload_n (pc := 28) (i := 0) (j := 0) (x := 0) dX10_take_28 rfl rfl ?_
    refine gfX10_36 (pc := 29) rfl h0 dX10_take_29 ?_
    refine pg_callV (pc := 32) (As := []) (st := []) okX6_keepDraft lkX10_173 rfl h1.1 rfl (Nat.le_refl _) (Nat.le_of_ble_eq_true rfl) (e2 M1 w1 x2 M2 w2 c0) dX10_take_32 (fun r3 M3 w3 => ?_)
    obtain ⟨rfl, w3⟩ := w3
    refine pg_iconst (pc := 35) (v := 1) dX10_take_35 (by decide) ?_
    exact pg_zret (pc := 36) rfl rfl dX10_take_36 (k0 M1 w1 x2 M2 w2 c0 M3 w3)
  · skip
    refine pg_iconst (pc := 26) (v := 0) dX10_take_26 (by decide) ?_
    exact pg_zret (pc := 27) rfl rfl dX10_take_27 (k1 M1 w1 x2 M2 w2 c0)
theorem oX10_take {d : Nat} {v1 : Int32} (h : pg_At S Λ YX10_take d 0 [(0, .ref 0), (1, .int v1)] [] M P) : pg_Ev S Λ YX10_take d [.ref 0, .int v1] M P := pg_Ev.of (by decide) (by first | decide | exact Nat.le_of_ble_eq_true rfl) h
theorem sX10_wash_0 {v1 : Int32} {Q0 : pg_M → Prop} {Q1 : Int32 → pg_M → Prop} {Q2 : pg_M → Prop}
    (h0 : pg_isX10 Λ)
    (h1 : pg_isX6 Λ)
    (h2 : pg_isX9 Λ 3)
    (e0 : pg_Ev S Λ YX6_draft d [.ref 19, .ref 3] M (fun r M' => r = none ∧ Q0 M'))
    (e1 : ∀ M1, Q0 M1 → pg_Ev S Λ YX9_washOut d [.ref 3, .ref (M1.2.2 0 8), .int v1] M1 (fun r M' => ∃ x, r = some (.int x) ∧ Q1 x M'))
    (k0 : ∀ M1, Q0 M1 → ∀ x2 M2, Q1 x2 M2 → (x2 = (-1)) → P (some (.int x2)) M2)
    (e2 : ∀ M1, Q0 M1 → ∀ x2 M2, Q1 x2 M2 → (¬ x2 = (-1)) → pg_Ev S Λ YX6_keepDraft d [.ref 19] M2 (fun r M' => r = none ∧ Q2 M'))
    (k1 : ∀ M1, Q0 M1 → ∀ x2 M2, Q1 x2 M2 → (¬ x2 = (-1)) → ∀ M3, Q2 M3 → P (some (.int x2)) M3) :
    pg_At S Λ YX10_wash (d + 1) 0 [(0, .ref 0), (1, .int v1)] [] M P := by
  refine pg_aload_n (pc := 0) (i := 0) (j := 0) (x := 0) dX10_wash_0 rfl rfl ?_
  refine gfX10_36 (pc := 1) rfl h0 dX10_wash_1 ?_
  refine pg_aload_n (pc := 4) (i := 0) (j := 0) (x := 0) dX10_wash_4 rfl rfl ?_
  refine gfX10_19 (pc := 5) rfl h0 dX10_wash_5 ?_
  refine pg_callV (pc := 8) (As := [.ref 3]) (st := []) okX6_draft lkX10_165 rfl h1.1 rfl (Nat.le_refl _) (Nat.le_of_ble_eq_true rfl) e0 dX10_wash_8 (fun r1 M1 w1 => ?_)
  obtain ⟨rfl, w1⟩ := w1
  refine pg_aload_n (pc := 11) (i := 0) (j := 0) (x := 0) dX10_wash_11 rfl rfl ?_
  refine gfX10_19 (pc := 12) rfl h0 dX10_wash_12 ?_
  refine pg_aload_n (pc := 15) (i := 0) (j := 0) (x := 0) dX10_wash_15 rfl rfl ?_
  refine gfX10_64 (pc := 16) rfl h0 dX10_wash_16 ?_
  refine pg_iload_n (pc := 19) (i := 1) (j := 1) (x := v1) dX10_wash_19 rfl rfl ?_
  refine pg_callV (pc := 20) (As := [.ref (M1.2.2 0 8), .int v1]) (st := []) okX9_washOut lkX10_182 rfl h2.1 rfl (Nat.le_refl _) (Nat.le_of_ble_eq_true rfl) (e1 M1 w1) dX10_wash_20 (fun r2 M2 w2 => ?_)
  obtain ⟨x2, rfl, w2⟩ := w2
  refine pg_istore_n (pc := 23) (i := 2) (ls' := [(2, .int x2), (0, .ref 0), (1, .int v1)]) dX10_wash_23 rfl (by decide) rfl ?_
  refine pg_iload_n (pc := 24) (i := 2) (j := 0) (x := x2) dX10_wash_24 rfl rfl ?_
  refine pg_iconst (pc := 25) (v := (-1)) dX10_wash_25 (by decide) ?_
  refine pg_icmp_eq (pc := 26) (tgt := 36) dX10_wash_26 (by decide) (fun c0 => ?_) (fun c0 => ?_)
  · skip
    refine pg_iload_n (pc := 36) (i := 2) (j := 0) (x := x2) dX10_wash_36 rfl rfl ?_
    exact pg_iret (pc := 37) rfl dX10_wash_37 (k0 M1 w1 x2 M2 w2 c0)
  · skip
    refine pg_aload_n (pc := 29) (i := 0) (j := 1) (x := 0) dX10_wash_29 rfl rfl ?_
    refine gfX10_36 (pc := 30) rfl h0 dX10_wash_30 ?_
    refine pg_callV (pc := 33) (As := []) (st := []) okX6_keepDraft lkX10_173 rfl h1.1 rfl (Nat.le_refl _) (Nat.le_of_ble_eq_true rfl) (e2 M1 w1 x2 M2 w2 c0) dX10_wash_33 (fun r3 M3 w3 => ?_)
    obtain ⟨rfl, w3⟩ := w3
    refine pg_iload_n (pc := 36) (i := 2) (j := 0) (x := x2) dX10_wash_36 rfl rfl ?_
    exact pg_iret (pc := 37) rfl dX10_wash_37 (k1 M1 w1 x2 M2 w2 c0 M3 w3)
theorem oX10_wash {d : Nat} {v1 : Int32} (h : pg_At S Λ YX10_wash d 0 [(0, .ref 0), (1, .int v1)] [] M P) : pg_Ev S Λ YX10_wash d [.ref 0, .int v1] M P := pg_Ev.of (by decide) (by first | decide | exact Nat.le_of_ble_eq_true rfl) h
theorem sX10_buy_0 {v1 : Int32} {Q0 : pg_M → Prop} {Q1 : Int32 → pg_M → Prop} {Q2 : pg_M → Prop}
    (h0 : pg_isX10 Λ)
    (h1 : pg_isX6 Λ)
    (h2 : pg_isX9 Λ 3)
    (e0 : pg_Ev S Λ YX6_draft d [.ref 19, .ref 3] M (fun r M' => r = none ∧ Q0 M'))
    (e1 : ∀ M1, Q0 M1 → pg_Ev S Λ YX9_addPeg d [.ref 3, .int v1] M1 (fun r M' => ∃ x, r = some (.int x) ∧ Q1 x M'))
    (k0 : ∀ M1, Q0 M1 → ∀ x2 M2, Q1 x2 M2 → (x2 = (-1)) → P (some (.int x2)) M2)
    (e2 : ∀ M1, Q0 M1 → ∀ x2 M2, Q1 x2 M2 → (¬ x2 = (-1)) → pg_Ev S Λ YX6_keepDraft d [.ref 19] M2 (fun r M' => r = none ∧ Q2 M'))
    (k1 : ∀ M1, Q0 M1 → ∀ x2 M2, Q1 x2 M2 → (¬ x2 = (-1)) → ∀ M3, Q2 M3 → P (some (.int x2)) M3) :
    pg_At S Λ YX10_buy (d + 1) 0 [(0, .ref 0), (1, .int v1)] [] M P := by
  refine pg_aload_n (pc := 0) (i := 0) (j := 0) (x := 0) dX10_buy_0 rfl rfl ?_
  refine gfX10_36 (pc := 1) rfl h0 dX10_buy_1 ?_
  refine pg_aload_n (pc := 4) (i := 0) (j := 0) (x := 0) dX10_buy_4 rfl rfl ?_
  refine gfX10_19 (pc := 5) rfl h0 dX10_buy_5 ?_
  refine pg_callV (pc := 8) (As := [.ref 3]) (st := []) okX6_draft lkX10_165 rfl h1.1 rfl (Nat.le_refl _) (Nat.le_of_ble_eq_true rfl) e0 dX10_buy_8 (fun r1 M1 w1 => ?_)
  obtain ⟨rfl, w1⟩ := w1
  refine pg_aload_n (pc := 11) (i := 0) (j := 0) (x := 0) dX10_buy_11 rfl rfl ?_
  refine gfX10_19 (pc := 12) rfl h0 dX10_buy_12 ?_
  refine pg_iload_n (pc := 15) (i := 1) (j := 1) (x := v1) dX10_buy_15 rfl rfl ?_
  refine pg_callV (pc := 16) (As := [.int v1]) (st := []) okX9_addPeg lkX10_185 rfl h2.1 rfl (Nat.le_refl _) (Nat.le_of_ble_eq_true rfl) (e1 M1 w1) dX10_buy_16 (fun r2 M2 w2 => ?_)
  obtain ⟨x2, rfl, w2⟩ := w2
  refine pg_istore_n (pc := 19) (i := 2) (ls' := [(2, .int x2), (0, .ref 0), (1, .int v1)]) dX10_buy_19 rfl (by decide) rfl ?_
  refine pg_iload_n (pc := 20) (i := 2) (j := 0) (x := x2) dX10_buy_20 rfl rfl ?_
  refine pg_iconst (pc := 21) (v := (-1)) dX10_buy_21 (by decide) ?_
  refine pg_icmp_eq (pc := 22) (tgt := 32) dX10_buy_22 (by decide) (fun c0 => ?_) (fun c0 => ?_)
  · skip
    refine pg_iload_n (pc := 32) (i := 2) (j := 0) (x := x2) dX10_buy_32 rfl rfl ?_
    exact pg_iret (pc := 33) rfl dX10_buy_33 (k0 M1 w1 x2 M2 w2 c0)
  · skip
    refine pg_aload_n (pc := 25) (i := 0) (j := 1) (x := 0) dX10_buy_25 rfl rfl ?_
    refine gfX10_36 (pc := 26) rfl h0 dX10_buy_26 ?_
    refine pg_callV (pc := 29) (As := []) (st := []) okX6_keepDraft lkX10_173 rfl h1.1 rfl (Nat.le_refl _) (Nat.le_of_ble_eq_true rfl) (e2 M1 w1 x2 M2 w2 c0) dX10_buy_29 (fun r3 M3 w3 => ?_)
    obtain ⟨rfl, w3⟩ := w3
    refine pg_iload_n (pc := 32) (i := 2) (j := 0) (x := x2) dX10_buy_32 rfl rfl ?_
    exact pg_iret (pc := 33) rfl dX10_buy_33 (k1 M1 w1 x2 M2 w2 c0 M3 w3)
theorem oX10_buy {d : Nat} {v1 : Int32} (h : pg_At S Λ YX10_buy d 0 [(0, .ref 0), (1, .int v1)] [] M P) : pg_Ev S Λ YX10_buy d [.ref 0, .int v1] M P := pg_Ev.of (by decide) (by first | decide | exact Nat.le_of_ble_eq_true rfl) h
theorem sX10_hour_0  {Q0 : pg_M → Prop} {Q1 : pg_M → Prop} {Q2 : Int32 → pg_M → Prop}
    (h0 : pg_isX10 Λ)
    (h1 : pg_isX6 Λ)
    (h2 : pg_isX9 Λ 3)
    (e0 : pg_Ev S Λ YX6_draft d [.ref 19, .ref 3] M (fun r M' => r = none ∧ Q0 M'))
    (e1 : ∀ M1, Q0 M1 → pg_Ev S Λ YX6_keepDraft d [.ref 19] M1 (fun r M' => r = none ∧ Q1 M'))
    (e2 : ∀ M1, Q0 M1 → ∀ M2, Q1 M2 → pg_Ev S Λ YX9_passHour d [.ref 3, .ref (M2.2.2 0 8), .int 0] M2 (fun r M' => ∃ x, r = some (.int x) ∧ Q2 x M'))
    (k0 : ∀ M1, Q0 M1 → ∀ M2, Q1 M2 → ∀ x3 M3, Q2 x3 M3 → P (some (.int x3)) M3) :
    pg_At S Λ YX10_hour (d + 1) 0 [(0, .ref 0)] [] M P := by
  refine pg_aload_n (pc := 0) (i := 0) (j := 0) (x := 0) dX10_hour_0 rfl rfl ?_
  refine gfX10_36 (pc := 1) rfl h0 dX10_hour_1 ?_
  refine pg_aload_n (pc := 4) (i := 0) (j := 0) (x := 0) dX10_hour_4 rfl rfl ?_
  refine gfX10_19 (pc := 5) rfl h0 dX10_hour_5 ?_
  refine pg_callV (pc := 8) (As := [.ref 3]) (st := []) okX6_draft lkX10_165 rfl h1.1 rfl (Nat.le_refl _) (Nat.le_of_ble_eq_true rfl) e0 dX10_hour_8 (fun r1 M1 w1 => ?_)
  obtain ⟨rfl, w1⟩ := w1
  refine pg_aload_n (pc := 11) (i := 0) (j := 0) (x := 0) dX10_hour_11 rfl rfl ?_
  refine gfX10_36 (pc := 12) rfl h0 dX10_hour_12 ?_
  refine pg_callV (pc := 15) (As := []) (st := []) okX6_keepDraft lkX10_173 rfl h1.1 rfl (Nat.le_refl _) (Nat.le_of_ble_eq_true rfl) (e1 M1 w1) dX10_hour_15 (fun r2 M2 w2 => ?_)
  obtain ⟨rfl, w2⟩ := w2
  refine pg_aload_n (pc := 18) (i := 0) (j := 0) (x := 0) dX10_hour_18 rfl rfl ?_
  refine gfX10_19 (pc := 19) rfl h0 dX10_hour_19 ?_
  refine pg_aload_n (pc := 22) (i := 0) (j := 0) (x := 0) dX10_hour_22 rfl rfl ?_
  refine gfX10_64 (pc := 23) rfl h0 dX10_hour_23 ?_
  refine pg_iconst (pc := 26) (v := 0) dX10_hour_26 (by decide) ?_
  refine pg_callV (pc := 27) (As := [.ref (M2.2.2 0 8), .int 0]) (st := []) okX9_passHour lkX10_188 rfl h2.1 rfl (Nat.le_refl _) (Nat.le_of_ble_eq_true rfl) (e2 M1 w1 M2 w2) dX10_hour_27 (fun r3 M3 w3 => ?_)
  obtain ⟨x3, rfl, w3⟩ := w3
  exact pg_iret (pc := 30) rfl dX10_hour_30 (k0 M1 w1 M2 w2 x3 M3 w3)
theorem oX10_hour {d : Nat}  (h : pg_At S Λ YX10_hour d 0 [(0, .ref 0)] [] M P) : pg_Ev S Λ YX10_hour d [.ref 0] M P := pg_Ev.of (by decide) (by first | decide | exact Nat.le_of_ble_eq_true rfl) h
theorem sX10_undo_0  {Q0 : Int32 → pg_M → Prop}
    (h0 : pg_isX10 Λ)
    (h1 : pg_isX6 Λ)
    (e0 : pg_Ev S Λ YX6_stepBack d [.ref 19, .ref 3] M (fun r M' => ∃ x, r = some (.int x) ∧ Q0 x M'))
    (k0 : ∀ x1 M1, Q0 x1 M1 → P (some (.int x1)) M1)
    (b0 : ∀ x1 M1, Q0 x1 M1 → narrow .boolean (.int x1) = .int x1) :
    pg_At S Λ YX10_undo (d + 1) 0 [(0, .ref 0)] [] M P := by
  refine pg_aload_n (pc := 0) (i := 0) (j := 0) (x := 0) dX10_undo_0 rfl rfl ?_
  refine gfX10_36 (pc := 1) rfl h0 dX10_undo_1 ?_
  refine pg_aload_n (pc := 4) (i := 0) (j := 0) (x := 0) dX10_undo_4 rfl rfl ?_
  refine gfX10_19 (pc := 5) rfl h0 dX10_undo_5 ?_
  refine pg_callV (pc := 8) (As := [.ref 3]) (st := []) okX6_stepBack lkX10_191 rfl h1.1 rfl (Nat.le_refl _) (Nat.le_of_ble_eq_true rfl) e0 dX10_undo_8 (fun r1 M1 w1 => ?_)
  obtain ⟨x1, rfl, w1⟩ := w1
  exact pg_zret (pc := 11) rfl (b0 x1 M1 w1) dX10_undo_11 (k0 x1 M1 w1)
theorem oX10_undo {d : Nat}  (h : pg_At S Λ YX10_undo d 0 [(0, .ref 0)] [] M P) : pg_Ev S Λ YX10_undo d [.ref 0] M P := pg_Ev.of (by decide) (by first | decide | exact Nat.le_of_ble_eq_true rfl) h
theorem sX10_judged_0 {v1 : Int32} {Q0 : pg_M → Prop} {Q1 : Int32 → pg_M → Prop}
    (h0 : pg_isX10 Λ)
    (h1 : pg_isX1 Λ (M.2.2 0 10))
    (h2 : pg_isX9 Λ 8)
    (k0 : (v1 < 0) → P (some (.int (-2))) M)
    (e0 : (¬ v1 < 0) → (v1 ≤ 2) → pg_Ev S Λ YX1_judge d [.ref (M.2.2 0 10), .ref (M.2.2 0 8), .ref 8] M (fun r M' => r = none ∧ Q0 M'))
    (e1 : (¬ v1 < 0) → (v1 ≤ 2) → ∀ M1, Q0 M1 → (¬ v1 = 0) → (¬ v1 = 1) → pg_Ev S Λ YX9_worthOfLaws d [.ref 8, .ref (M1.2.2 0 8)] M1 (fun r M' => ∃ x, r = some (.int x) ∧ Q1 x M'))
    (k1 : (¬ v1 < 0) → (v1 ≤ 2) → ∀ M1, Q0 M1 → (¬ v1 = 0) → (¬ v1 = 1) → ∀ x2 M2, Q1 x2 M2 → P (some (.int x2)) M2)
    (b0 : (¬ v1 < 0) → (v1 ≤ 2) → ∀ M1, Q0 M1 → (¬ v1 = 0) → (v1 = 1) → pg_isX1 Λ (M1.2.2 0 10))
    (k2 : (¬ v1 < 0) → (v1 ≤ 2) → ∀ M1, Q0 M1 → (¬ v1 = 0) → (v1 = 1) → P (some (.int (M1.1 (M1.2.2 0 10) 5))) M1)
    (b1 : (¬ v1 < 0) → (v1 ≤ 2) → ∀ M1, Q0 M1 → (v1 = 0) → pg_isX1 Λ (M1.2.2 0 10))
    (k3 : (¬ v1 < 0) → (v1 ≤ 2) → ∀ M1, Q0 M1 → (v1 = 0) → P (some (.int (M1.1 (M1.2.2 0 10) 4))) M1)
    (k4 : (¬ v1 < 0) → (¬ v1 ≤ 2) → P (some (.int (-2))) M) :
    pg_At S Λ YX10_judged (d + 1) 0 [(0, .ref 0), (1, .int v1)] [] M P := by
  refine pg_iload_n (pc := 0) (i := 1) (j := 1) (x := v1) dX10_judged_0 rfl rfl ?_
  refine pg_if_lt (pc := 1) (tgt := 9) dX10_judged_1 (by decide) (fun c0 => ?_) (fun c0 => ?_)
  · skip
    refine pg_bipush (pc := 9) (v := (-2)) dX10_judged_9 (by decide) ?_
    exact pg_iret (pc := 11) rfl dX10_judged_11 (k0 c0)
  · skip
    refine pg_iload_n (pc := 4) (i := 1) (j := 1) (x := v1) dX10_judged_4 rfl rfl ?_
    refine pg_iconst (pc := 5) (v := 2) dX10_judged_5 (by decide) ?_
    refine pg_icmp_le (pc := 6) (tgt := 12) dX10_judged_6 (by decide) (fun c1 => ?_) (fun c1 => ?_)
    · skip
      refine pg_aload_n (pc := 12) (i := 0) (j := 0) (x := 0) dX10_judged_12 rfl rfl ?_
      refine gfX10_74 (pc := 13) rfl h0 dX10_judged_13 ?_
      refine pg_aload_n (pc := 16) (i := 0) (j := 0) (x := 0) dX10_judged_16 rfl rfl ?_
      refine gfX10_64 (pc := 17) rfl h0 dX10_judged_17 ?_
      refine pg_aload_n (pc := 20) (i := 0) (j := 0) (x := 0) dX10_judged_20 rfl rfl ?_
      refine gfX10_23 (pc := 21) rfl h0 dX10_judged_21 ?_
      refine pg_callV (pc := 24) (As := [.ref (M.2.2 0 8), .ref 8]) (st := []) okX1_judge lkX10_195 rfl h1.1 rfl (Nat.le_refl _) (Nat.le_of_ble_eq_true rfl) (e0 c0 c1) dX10_judged_24 (fun r1 M1 w1 => ?_)
      obtain ⟨rfl, w1⟩ := w1
      refine pg_iload_n (pc := 27) (i := 1) (j := 1) (x := v1) dX10_judged_27 rfl rfl ?_
      refine pg_if_ne (pc := 28) (tgt := 39) dX10_judged_28 (by decide) (fun c2 => ?_) (fun c2 => ?_)
      · skip
        refine pg_iload_n (pc := 39) (i := 1) (j := 1) (x := v1) dX10_judged_39 rfl rfl ?_
        refine pg_iconst (pc := 40) (v := 1) dX10_judged_40 (by decide) ?_
        refine pg_icmp_ne (pc := 41) (tgt := 54) dX10_judged_41 (by decide) (fun c3 => ?_) (fun c3 => ?_)
        · skip
          refine pg_aload_n (pc := 54) (i := 0) (j := 0) (x := 0) dX10_judged_54 rfl rfl ?_
          refine gfX10_23 (pc := 55) rfl h0 dX10_judged_55 ?_
          refine pg_aload_n (pc := 58) (i := 0) (j := 0) (x := 0) dX10_judged_58 rfl rfl ?_
          refine gfX10_64 (pc := 59) rfl h0 dX10_judged_59 ?_
          refine pg_callV (pc := 62) (As := [.ref (M1.2.2 0 8)]) (st := []) okX9_worthOfLaws lkX10_205 rfl h2.1 rfl (Nat.le_refl _) (Nat.le_of_ble_eq_true rfl) (e1 c0 c1 M1 w1 c2 c3) dX10_judged_62 (fun r2 M2 w2 => ?_)
          obtain ⟨x2, rfl, w2⟩ := w2
          exact pg_iret (pc := 65) rfl dX10_judged_65 (k1 c0 c1 M1 w1 c2 c3 x2 M2 w2)
        · skip
          refine pg_aload_n (pc := 44) (i := 0) (j := 0) (x := 0) dX10_judged_44 rfl rfl ?_
          refine gfX10_74 (pc := 45) rfl h0 dX10_judged_45 ?_
          refine gfX10_202 (pc := 48) rfl (b0 c0 c1 M1 w1 c2 c3) dX10_judged_48 ?_
          refine pg_goto (pc := 51) (tgt := 65) dX10_judged_51 (by decide) ?_
          exact pg_iret (pc := 65) rfl dX10_judged_65 (k2 c0 c1 M1 w1 c2 c3)
      · skip
        refine pg_aload_n (pc := 31) (i := 0) (j := 0) (x := 0) dX10_judged_31 rfl rfl ?_
        refine gfX10_74 (pc := 32) rfl h0 dX10_judged_32 ?_
        refine gfX10_199 (pc := 35) rfl (b1 c0 c1 M1 w1 c2) dX10_judged_35 ?_
        exact pg_iret (pc := 38) rfl dX10_judged_38 (k3 c0 c1 M1 w1 c2)
    · skip
      refine pg_bipush (pc := 9) (v := (-2)) dX10_judged_9 (by decide) ?_
      exact pg_iret (pc := 11) rfl dX10_judged_11 (k4 c0 c1)
theorem oX10_judged {d : Nat} {v1 : Int32} (h : pg_At S Λ YX10_judged d 0 [(0, .ref 0), (1, .int v1)] [] M P) : pg_Ev S Λ YX10_judged d [.ref 0, .int v1] M P := pg_Ev.of (by decide) (by first | decide | exact Nat.le_of_ble_eq_true rfl) h
theorem sX10_holds_0 {v1 : Int32} {Q0 : Int32 → pg_M → Prop} {Q1 : pg_M → Prop}
    (h0 : pg_isX10 Λ)
    (h1 : pg_isX5 Λ (M.2.2 0 8))
    (h2 : pg_isX9 Λ 3)
    (h3 : pg_isX9 Λ 8)
    (e0 : pg_Ev S Λ YX5_has d [.ref (M.2.2 0 8), .int v1] M (fun r M' => ∃ x, r = some (.int x) ∧ Q0 x M'))
    (k0 : ∀ x1 M1, Q0 x1 M1 → (x1 = 0) → P (some (.int (-1))) M1)
    (b0 : ∀ x1 M1, Q0 x1 M1 → (¬ x1 = 0) → vp_in v1 6)
    (e1 : ∀ x1 M1, Q0 x1 M1 → (¬ x1 = 0) → (¬ (M1.1 6 v1.toNatClampNeg) = 0) → pg_Ev S Λ YX9_copyFrom d [.ref 8, .ref 3] M1 (fun r M' => r = none ∧ Q1 M'))
    (k1 : ∀ x1 M1, Q0 x1 M1 → (¬ x1 = 0) → (¬ (M1.1 6 v1.toNatClampNeg) = 0) → ∀ M2, Q1 M2 → pg_At S Λ YX10_holds (d + 1) 38 [(0, .ref 0), (1, .int v1), (2, .int 1)] [] M2 P)
    (k2 : ∀ x1 M1, Q0 x1 M1 → (¬ x1 = 0) → ((M1.1 6 v1.toNatClampNeg) = 0) → P (some (.int (-1))) M1) :
    pg_At S Λ YX10_holds (d + 1) 0 [(0, .ref 0), (1, .int v1)] [] M P := by
  refine pg_aload_n (pc := 0) (i := 0) (j := 0) (x := 0) dX10_holds_0 rfl rfl ?_
  refine gfX10_64 (pc := 1) rfl h0 dX10_holds_1 ?_
  refine pg_iload_n (pc := 4) (i := 1) (j := 1) (x := v1) dX10_holds_4 rfl rfl ?_
  refine pg_callV (pc := 5) (As := [.int v1]) (st := []) okX5_has lkX10_110 rfl h1.1 rfl (Nat.le_refl _) (Nat.le_of_ble_eq_true rfl) e0 dX10_holds_5 (fun r1 M1 w1 => ?_)
  obtain ⟨x1, rfl, w1⟩ := w1
  refine pg_if_eq (pc := 8) (tgt := 23) dX10_holds_8 (by decide) (fun c0 => ?_) (fun c0 => ?_)
  · skip
    refine pg_iconst (pc := 23) (v := (-1)) dX10_holds_23 (by decide) ?_
    exact pg_iret (pc := 24) rfl dX10_holds_24 (k0 x1 M1 w1 c0)
  · skip
    refine pg_aload_n (pc := 11) (i := 0) (j := 0) (x := 0) dX10_holds_11 rfl rfl ?_
    refine gfX10_19 (pc := 12) rfl h0 dX10_holds_12 ?_
    refine gfX10_124 (pc := 15) rfl h2 dX10_holds_15 ?_
    refine pg_iload_n (pc := 18) (i := 1) (j := 1) (x := v1) dX10_holds_18 rfl rfl ?_
    refine pg_iald (pc := 19) h2.2.2.2.1 (b0 x1 M1 w1 c0) dX10_holds_19 ?_
    refine pg_if_ne (pc := 20) (tgt := 25) dX10_holds_20 (by decide) (fun c1 => ?_) (fun c1 => ?_)
    · skip
      refine pg_aload_n (pc := 25) (i := 0) (j := 0) (x := 0) dX10_holds_25 rfl rfl ?_
      refine gfX10_23 (pc := 26) rfl h0 dX10_holds_26 ?_
      refine pg_aload_n (pc := 29) (i := 0) (j := 0) (x := 0) dX10_holds_29 rfl rfl ?_
      refine gfX10_19 (pc := 30) rfl h0 dX10_holds_30 ?_
      refine pg_callV (pc := 33) (As := [.ref 3]) (st := []) okX9_copyFrom lkX10_208 rfl h3.1 rfl (Nat.le_refl _) (Nat.le_of_ble_eq_true rfl) (e1 x1 M1 w1 c0 c1) dX10_holds_33 (fun r2 M2 w2 => ?_)
      obtain ⟨rfl, w2⟩ := w2
      refine pg_iconst (pc := 36) (v := 1) dX10_holds_36 (by decide) ?_
      refine pg_istore_n (pc := 37) (i := 2) (ls' := [(2, .int 1), (0, .ref 0), (1, .int v1)]) dX10_holds_37 rfl (by decide) rfl ?_
      refine pg_drop (ks := [1, 2, 0]) (ls' := [(0, .ref 0), (1, .int v1), (2, .int 1)]) rfl ?_
      exact k1 x1 M1 w1 c0 c1 M2 w2
    · skip
      refine pg_iconst (pc := 23) (v := (-1)) dX10_holds_23 (by decide) ?_
      exact pg_iret (pc := 24) rfl dX10_holds_24 (k2 x1 M1 w1 c0 c1)
theorem sX10_holds_38 {v1 : Int32} {v2 : Int32} {Q0 : Int32 → pg_M → Prop}
    (h0 : pg_isX10 Λ)
    (h1 : pg_isX9 Λ 8)
    (k0 : (40 < v2) → P (some (.int (-1))) M)
    (e0 : (¬ 40 < v2) → pg_Ev S Λ YX9_passAlone d [.ref 8, .ref (M.2.2 0 8), .int v1, .int (v2 - 1)] M (fun r M' => ∃ x, r = some (.int x) ∧ Q0 x M'))
    (k1 : (¬ 40 < v2) → ∀ x1 M1, Q0 x1 M1 → (x1 = 0) → pg_At S Λ YX10_holds (d + 1) 38 [(0, .ref 0), (1, .int v1), (2, .int (v2 + 1))] [] M1 P)
    (k2 : (¬ 40 < v2) → ∀ x1 M1, Q0 x1 M1 → (¬ x1 = 0) → P (some (.int v2)) M1) :
    pg_At S Λ YX10_holds (d + 1) 38 [(0, .ref 0), (1, .int v1), (2, .int v2)] [] M P := by
  refine pg_iload_n (pc := 38) (i := 2) (j := 2) (x := v2) dX10_holds_38 rfl rfl ?_
  refine pg_bipush (pc := 39) (v := 40) dX10_holds_39 (by decide) ?_
  refine pg_icmp_gt (pc := 41) (tgt := 70) dX10_holds_41 (by decide) (fun c0 => ?_) (fun c0 => ?_)
  · skip
    refine pg_iconst (pc := 70) (v := (-1)) dX10_holds_70 (by decide) ?_
    exact pg_iret (pc := 71) rfl dX10_holds_71 (k0 c0)
  · skip
    refine pg_aload_n (pc := 44) (i := 0) (j := 0) (x := 0) dX10_holds_44 rfl rfl ?_
    refine gfX10_23 (pc := 45) rfl h0 dX10_holds_45 ?_
    refine pg_aload_n (pc := 48) (i := 0) (j := 0) (x := 0) dX10_holds_48 rfl rfl ?_
    refine gfX10_64 (pc := 49) rfl h0 dX10_holds_49 ?_
    refine pg_iload_n (pc := 52) (i := 1) (j := 1) (x := v1) dX10_holds_52 rfl rfl ?_
    refine pg_iload_n (pc := 53) (i := 2) (j := 2) (x := v2) dX10_holds_53 rfl rfl ?_
    refine pg_iconst (pc := 54) (v := 1) dX10_holds_54 (by decide) ?_
    refine pg_isub (pc := 55) dX10_holds_55 ?_
    refine pg_callV (pc := 56) (As := [.ref (M.2.2 0 8), .int v1, .int (v2 - 1)]) (st := []) okX9_passAlone lkX10_211 rfl h1.1 rfl (Nat.le_refl _) (Nat.le_of_ble_eq_true rfl) (e0 c0) dX10_holds_56 (fun r1 M1 w1 => ?_)
    obtain ⟨x1, rfl, w1⟩ := w1
    refine pg_if_eq (pc := 59) (tgt := 64) dX10_holds_59 (by decide) (fun c1 => ?_) (fun c1 => ?_)
    · skip
      refine pg_iinc (pc := 64) (i := 2) (j := 2) (x := v2) (v := v2 + 1) (ls' := [(2, .int (v2 + 1)), (0, .ref 0), (1, .int v1)]) dX10_holds_64 rfl rfl (by decide) rfl ?_
      refine pg_goto (pc := 67) (tgt := 38) dX10_holds_67 (by decide) ?_
      refine pg_drop (ks := [1, 2, 0]) (ls' := [(0, .ref 0), (1, .int v1), (2, .int (v2 + 1))]) rfl ?_
      exact k1 c0 x1 M1 w1 c1
    · skip
      refine pg_iload_n (pc := 62) (i := 2) (j := 2) (x := v2) dX10_holds_62 rfl rfl ?_
      exact pg_iret (pc := 63) rfl dX10_holds_63 (k2 c0 x1 M1 w1 c1)
theorem oX10_holds {d : Nat} {v1 : Int32} (h : pg_At S Λ YX10_holds d 0 [(0, .ref 0), (1, .int v1)] [] M P) : pg_Ev S Λ YX10_holds d [.ref 0, .int v1] M P := pg_Ev.of (by decide) (by first | decide | exact Nat.le_of_ble_eq_true rfl) h
theorem sX10_clashes_0  {Q0 : Int32 → pg_M → Prop} {Q1 : Int32 → pg_M → Prop}
    (h0 : pg_isX10 Λ)
    (h1 : pg_isX9 Λ 3)
    (h2 : pg_isX5 Λ (M.2.2 0 8))
    (e0 : pg_Ev S Λ YX9_lawBits d [.ref 3, .ref (M.2.2 0 8)] M (fun r M' => ∃ x, r = some (.int x) ∧ Q0 x M'))
    (e1 : ∀ x1 M1, Q0 x1 M1 → pg_Ev S Λ YX5_clashesAmong d [.ref (M.2.2 0 8), .int x1] M1 (fun r M' => ∃ x, r = some (.int x) ∧ Q1 x M'))
    (k0 : ∀ x1 M1, Q0 x1 M1 → ∀ x2 M2, Q1 x2 M2 → P (some (.int x2)) M2) :
    pg_At S Λ YX10_clashes (d + 1) 0 [(0, .ref 0)] [] M P := by
  refine pg_aload_n (pc := 0) (i := 0) (j := 0) (x := 0) dX10_clashes_0 rfl rfl ?_
  refine gfX10_64 (pc := 1) rfl h0 dX10_clashes_1 ?_
  refine pg_aload_n (pc := 4) (i := 0) (j := 0) (x := 0) dX10_clashes_4 rfl rfl ?_
  refine gfX10_19 (pc := 5) rfl h0 dX10_clashes_5 ?_
  refine pg_aload_n (pc := 8) (i := 0) (j := 0) (x := 0) dX10_clashes_8 rfl rfl ?_
  refine gfX10_64 (pc := 9) rfl h0 dX10_clashes_9 ?_
  refine pg_callV (pc := 12) (As := [.ref (M.2.2 0 8)]) (st := [.ref (M.2.2 0 8)]) okX9_lawBits lkX10_162 rfl h1.1 rfl (Nat.le_refl _) (Nat.le_of_ble_eq_true rfl) e0 dX10_clashes_12 (fun r1 M1 w1 => ?_)
  obtain ⟨x1, rfl, w1⟩ := w1
  refine pg_callV (pc := 15) (As := [.int x1]) (st := []) okX5_clashesAmong lkX10_214 rfl h2.1 rfl (Nat.le_refl _) (Nat.le_of_ble_eq_true rfl) (e1 x1 M1 w1) dX10_clashes_15 (fun r2 M2 w2 => ?_)
  obtain ⟨x2, rfl, w2⟩ := w2
  exact pg_iret (pc := 18) rfl dX10_clashes_18 (k0 x1 M1 w1 x2 M2 w2)
theorem oX10_clashes {d : Nat}  (h : pg_At S Λ YX10_clashes d 0 [(0, .ref 0)] [] M P) : pg_Ev S Λ YX10_clashes d [.ref 0] M P := pg_Ev.of (by decide) (by first | decide | exact Nat.le_of_ble_eq_true rfl) h
theorem sX10_mend_0 {v1 : Int32} {Q0 : Int32 → pg_M → Prop} {Q1 : Int32 → pg_M → Prop} {Q2 : Int32 → pg_M → Prop} {Q3 : Int32 → pg_M → Prop}
    (h0 : pg_isX10 Λ)
    (h1 : pg_isX9 Λ 3)
    (e0 : (v1 = 0) → pg_Ev S Λ YX9_lawBits d [.ref 3, .ref (M.2.2 0 8)] M (fun r M' => ∃ x, r = some (.int x) ∧ Q0 x M'))
    (b0 : (v1 = 0) → ∀ x1 M1, Q0 x1 M1 → pg_isX5 Λ (M1.2.2 0 8))
    (e1 : (v1 = 0) → ∀ x1 M1, Q0 x1 M1 → pg_Ev S Λ YX5_worthOf d [.ref (M1.2.2 0 8), .int x1] M1 (fun r M' => ∃ x, r = some (.int x) ∧ Q1 x M'))
    (k0 : (v1 = 0) → ∀ x1 M1, Q0 x1 M1 → ∀ x2 M2, Q1 x2 M2 → pg_At S Λ YX10_mend (d + 1) 38 [(0, .ref 0), (1, .int v1), (2, .int x1), (3, .int x1), (4, .int x2), (5, .int x1)] [] M2 P)
    (e2 : (¬ v1 = 0) → (v1 = 1) → pg_Ev S Λ YX9_lawBits d [.ref 3, .ref (M.2.2 0 8)] M (fun r M' => ∃ x, r = some (.int x) ∧ Q2 x M'))
    (b1 : (¬ v1 = 0) → (v1 = 1) → ∀ x3 M3, Q2 x3 M3 → pg_isX5 Λ (M3.2.2 0 8))
    (e3 : (¬ v1 = 0) → (v1 = 1) → ∀ x3 M3, Q2 x3 M3 → pg_Ev S Λ YX5_worthOf d [.ref (M3.2.2 0 8), .int x3] M3 (fun r M' => ∃ x, r = some (.int x) ∧ Q3 x M'))
    (k1 : (¬ v1 = 0) → (v1 = 1) → ∀ x3 M3, Q2 x3 M3 → ∀ x4 M4, Q3 x4 M4 → pg_At S Λ YX10_mend (d + 1) 38 [(0, .ref 0), (1, .int v1), (2, .int x3), (3, .int x3), (4, .int x4), (5, .int x3)] [] M4 P)
    (k2 : (¬ v1 = 0) → (¬ v1 = 1) → P (some (.int (-1))) M) :
    pg_At S Λ YX10_mend (d + 1) 0 [(0, .ref 0), (1, .int v1)] [] M P := by
  refine pg_iload_n (pc := 0) (i := 1) (j := 1) (x := v1) dX10_mend_0 rfl rfl ?_
  refine pg_if_eq (pc := 1) (tgt := 11) dX10_mend_1 (by decide) (fun c0 => ?_) (fun c0 => ?_)
  · skip
    refine pg_aload_n (pc := 11) (i := 0) (j := 0) (x := 0) dX10_mend_11 rfl rfl ?_
    refine gfX10_19 (pc := 12) rfl h0 dX10_mend_12 ?_
    refine pg_aload_n (pc := 15) (i := 0) (j := 0) (x := 0) dX10_mend_15 rfl rfl ?_
    refine gfX10_64 (pc := 16) rfl h0 dX10_mend_16 ?_
    refine pg_callV (pc := 19) (As := [.ref (M.2.2 0 8)]) (st := []) okX9_lawBits lkX10_162 rfl h1.1 rfl (Nat.le_refl _) (Nat.le_of_ble_eq_true rfl) (e0 c0) dX10_mend_19 (fun r1 M1 w1 => ?_)
    obtain ⟨x1, rfl, w1⟩ := w1
    refine pg_istore_n (pc := 22) (i := 2) (ls' := [(2, .int x1), (0, .ref 0), (1, .int v1)]) dX10_mend_22 rfl (by decide) rfl ?_
    refine pg_iload_n (pc := 23) (i := 2) (j := 0) (x := x1) dX10_mend_23 rfl rfl ?_
    refine pg_istore_n (pc := 24) (i := 3) (ls' := [(3, .int x1), (2, .int x1), (0, .ref 0), (1, .int v1)]) dX10_mend_24 rfl (by decide) rfl ?_
    refine pg_aload_n (pc := 25) (i := 0) (j := 2) (x := 0) dX10_mend_25 rfl rfl ?_
    refine gfX10_64 (pc := 26) rfl h0 dX10_mend_26 ?_
    refine pg_iload_n (pc := 29) (i := 2) (j := 1) (x := x1) dX10_mend_29 rfl rfl ?_
    refine pg_callV (pc := 30) (As := [.int x1]) (st := []) okX5_worthOf lkX10_217 rfl (b0 c0 x1 M1 w1).1 rfl (Nat.le_refl _) (Nat.le_of_ble_eq_true rfl) (e1 c0 x1 M1 w1) dX10_mend_30 (fun r2 M2 w2 => ?_)
    obtain ⟨x2, rfl, w2⟩ := w2
    refine pg_istore (pc := 33) (i := 4) (ls' := [(4, .int x2), (3, .int x1), (2, .int x1), (0, .ref 0), (1, .int v1)]) dX10_mend_33 (by decide) rfl ?_
    refine pg_iload_n (pc := 35) (i := 2) (j := 2) (x := x1) dX10_mend_35 rfl rfl ?_
    refine pg_istore (pc := 36) (i := 5) (ls' := [(5, .int x1), (4, .int x2), (3, .int x1), (2, .int x1), (0, .ref 0), (1, .int v1)]) dX10_mend_36 (by decide) rfl ?_
    refine pg_drop (ks := [4, 5, 3, 2, 1, 0]) (ls' := [(0, .ref 0), (1, .int v1), (2, .int x1), (3, .int x1), (4, .int x2), (5, .int x1)]) rfl ?_
    exact k0 c0 x1 M1 w1 x2 M2 w2
  · skip
    refine pg_iload_n (pc := 4) (i := 1) (j := 1) (x := v1) dX10_mend_4 rfl rfl ?_
    refine pg_iconst (pc := 5) (v := 1) dX10_mend_5 (by decide) ?_
    refine pg_icmp_eq (pc := 6) (tgt := 11) dX10_mend_6 (by decide) (fun c1 => ?_) (fun c1 => ?_)
    · skip
      refine pg_aload_n (pc := 11) (i := 0) (j := 0) (x := 0) dX10_mend_11 rfl rfl ?_
      refine gfX10_19 (pc := 12) rfl h0 dX10_mend_12 ?_
      refine pg_aload_n (pc := 15) (i := 0) (j := 0) (x := 0) dX10_mend_15 rfl rfl ?_
      refine gfX10_64 (pc := 16) rfl h0 dX10_mend_16 ?_
      refine pg_callV (pc := 19) (As := [.ref (M.2.2 0 8)]) (st := []) okX9_lawBits lkX10_162 rfl h1.1 rfl (Nat.le_refl _) (Nat.le_of_ble_eq_true rfl) (e2 c0 c1) dX10_mend_19 (fun r3 M3 w3 => ?_)
      obtain ⟨x3, rfl, w3⟩ := w3
      refine pg_istore_n (pc := 22) (i := 2) (ls' := [(2, .int x3), (0, .ref 0), (1, .int v1)]) dX10_mend_22 rfl (by decide) rfl ?_
      refine pg_iload_n (pc := 23) (i := 2) (j := 0) (x := x3) dX10_mend_23 rfl rfl ?_
      refine pg_istore_n (pc := 24) (i := 3) (ls' := [(3, .int x3), (2, .int x3), (0, .ref 0), (1, .int v1)]) dX10_mend_24 rfl (by decide) rfl ?_
      refine pg_aload_n (pc := 25) (i := 0) (j := 2) (x := 0) dX10_mend_25 rfl rfl ?_
      refine gfX10_64 (pc := 26) rfl h0 dX10_mend_26 ?_
      refine pg_iload_n (pc := 29) (i := 2) (j := 1) (x := x3) dX10_mend_29 rfl rfl ?_
      refine pg_callV (pc := 30) (As := [.int x3]) (st := []) okX5_worthOf lkX10_217 rfl (b1 c0 c1 x3 M3 w3).1 rfl (Nat.le_refl _) (Nat.le_of_ble_eq_true rfl) (e3 c0 c1 x3 M3 w3) dX10_mend_30 (fun r4 M4 w4 => ?_)
      obtain ⟨x4, rfl, w4⟩ := w4
      refine pg_istore (pc := 33) (i := 4) (ls' := [(4, .int x4), (3, .int x3), (2, .int x3), (0, .ref 0), (1, .int v1)]) dX10_mend_33 (by decide) rfl ?_
      refine pg_iload_n (pc := 35) (i := 2) (j := 2) (x := x3) dX10_mend_35 rfl rfl ?_
      refine pg_istore (pc := 36) (i := 5) (ls' := [(5, .int x3), (4, .int x4), (3, .int x3), (2, .int x3), (0, .ref 0), (1, .int v1)]) dX10_mend_36 (by decide) rfl ?_
      refine pg_drop (ks := [4, 5, 3, 2, 1, 0]) (ls' := [(0, .ref 0), (1, .int v1), (2, .int x3), (3, .int x3), (4, .int x4), (5, .int x3)]) rfl ?_
      exact k1 c0 c1 x3 M3 w3 x4 M4 w4
    · skip
      refine pg_iconst (pc := 9) (v := (-1)) dX10_mend_9 (by decide) ?_
      exact pg_iret (pc := 10) rfl dX10_mend_10 (k2 c0 c1)
theorem sX10_mend_38 {v1 : Int32} {v2 : Int32} {v3 : Int32} {v4 : Int32} {v5 : Int32} {Q0 : Int32 → pg_M → Prop} {Q1 : Int32 → pg_M → Prop}
    (h0 : pg_isX10 Λ)
    (h1 : pg_isX5 Λ (M.2.2 0 8))
    (k0 : (v5 < 0) → (¬ v1 = 0) → P (some (.int v3)) M)
    (k1 : (v5 < 0) → (v1 = 0) → P (some (.int v4)) M)
    (e0 : (¬ v5 < 0) → pg_Ev S Λ YX5_worthOf d [.ref (M.2.2 0 8), .int v5] M (fun r M' => ∃ x, r = some (.int x) ∧ Q0 x M'))
    (k2 : (¬ v5 < 0) → ∀ x1 M1, Q0 x1 M1 → (¬ (v5 &&& (v2 ^^^ (-1))) = 0) → pg_At S Λ YX10_mend (d + 1) 38 [(0, .ref 0), (1, .int v1), (2, .int v2), (3, .int v3), (4, .int v4), (5, .int (v5 + (-1)))] [] M1 P)
    (k3 : (¬ v5 < 0) → ∀ x1 M1, Q0 x1 M1 → ((v5 &&& (v2 ^^^ (-1))) = 0) → (v4 < x1) → pg_At S Λ YX10_mend (d + 1) 38 [(0, .ref 0), (1, .int v1), (2, .int v2), (3, .int v3), (4, .int v4), (5, .int (v5 + (-1)))] [] M1 P)
    (b0 : (¬ v5 < 0) → ∀ x1 M1, Q0 x1 M1 → ((v5 &&& (v2 ^^^ (-1))) = 0) → (¬ v4 < x1) → pg_isX5 Λ (M1.2.2 0 8))
    (e1 : (¬ v5 < 0) → ∀ x1 M1, Q0 x1 M1 → ((v5 &&& (v2 ^^^ (-1))) = 0) → (¬ v4 < x1) → pg_Ev S Λ YX5_clashesAmong d [.ref (M1.2.2 0 8), .int (v2 &&& (v5 ^^^ (-1)))] M1 (fun r M' => ∃ x, r = some (.int x) ∧ Q1 x M'))
    (k4 : (¬ v5 < 0) → ∀ x1 M1, Q0 x1 M1 → ((v5 &&& (v2 ^^^ (-1))) = 0) → (¬ v4 < x1) → ∀ x2 M2, Q1 x2 M2 → (¬ x2 = 0) → pg_At S Λ YX10_mend (d + 1) 38 [(0, .ref 0), (1, .int v1), (2, .int v2), (3, .int v3), (4, .int v4), (5, .int (v5 + (-1)))] [] M2 P)
    (k5 : (¬ v5 < 0) → ∀ x1 M1, Q0 x1 M1 → ((v5 &&& (v2 ^^^ (-1))) = 0) → (¬ v4 < x1) → ∀ x2 M2, Q1 x2 M2 → (x2 = 0) → pg_At S Λ YX10_mend (d + 1) 38 [(0, .ref 0), (1, .int v1), (2, .int v2), (3, .int v5), (4, .int x1), (5, .int (v5 + (-1)))] [] M2 P) :
    pg_At S Λ YX10_mend (d + 1) 38 [(0, .ref 0), (1, .int v1), (2, .int v2), (3, .int v3), (4, .int v4), (5, .int v5)] [] M P := by
  refine pg_iload (pc := 38) (i := 5) (j := 5) (x := v5) dX10_mend_38 rfl ?_
  refine pg_if_lt (pc := 40) (tgt := 99) dX10_mend_40 (by decide) (fun c0 => ?_) (fun c0 => ?_)
  · skip
    refine pg_iload_n (pc := 99) (i := 1) (j := 1) (x := v1) dX10_mend_99 rfl rfl ?_
    refine pg_if_ne (pc := 100) (tgt := 108) dX10_mend_100 (by decide) (fun c1 => ?_) (fun c1 => ?_)
    · skip
      refine pg_iload_n (pc := 108) (i := 3) (j := 3) (x := v3) dX10_mend_108 rfl rfl ?_
      exact pg_iret (pc := 109) rfl dX10_mend_109 (k0 c0 c1)
    · skip
      refine pg_iload (pc := 103) (i := 4) (j := 4) (x := v4) dX10_mend_103 rfl ?_
      refine pg_goto (pc := 105) (tgt := 109) dX10_mend_105 (by decide) ?_
      exact pg_iret (pc := 109) rfl dX10_mend_109 (k1 c0 c1)
  · skip
    refine pg_aload_n (pc := 43) (i := 0) (j := 0) (x := 0) dX10_mend_43 rfl rfl ?_
    refine gfX10_64 (pc := 44) rfl h0 dX10_mend_44 ?_
    refine pg_iload (pc := 47) (i := 5) (j := 5) (x := v5) dX10_mend_47 rfl ?_
    refine pg_callV (pc := 49) (As := [.int v5]) (st := []) okX5_worthOf lkX10_217 rfl h1.1 rfl (Nat.le_refl _) (Nat.le_of_ble_eq_true rfl) (e0 c0) dX10_mend_49 (fun r1 M1 w1 => ?_)
    obtain ⟨x1, rfl, w1⟩ := w1
    refine pg_istore (pc := 52) (i := 6) (ls' := [(6, .int x1), (0, .ref 0), (1, .int v1), (2, .int v2), (3, .int v3), (4, .int v4), (5, .int v5)]) dX10_mend_52 (by decide) rfl ?_
    refine pg_iload (pc := 54) (i := 5) (j := 6) (x := v5) dX10_mend_54 rfl ?_
    refine pg_iload_n (pc := 56) (i := 2) (j := 3) (x := v2) dX10_mend_56 rfl rfl ?_
    refine pg_iconst (pc := 57) (v := (-1)) dX10_mend_57 (by decide) ?_
    refine pg_ixor (pc := 58) dX10_mend_58 ?_
    refine pg_iand (pc := 59) dX10_mend_59 ?_
    refine pg_if_ne (pc := 60) (tgt := 93) dX10_mend_60 (by decide) (fun c1 => ?_) (fun c1 => ?_)
    · skip
      refine pg_iinc (pc := 93) (i := 5) (j := 6) (x := v5) (v := v5 + (-1)) (ls' := [(5, .int (v5 + (-1))), (6, .int x1), (0, .ref 0), (1, .int v1), (2, .int v2), (3, .int v3), (4, .int v4)]) dX10_mend_93 rfl rfl (by decide) rfl ?_
      refine pg_goto (pc := 96) (tgt := 38) dX10_mend_96 (by decide) ?_
      refine pg_drop (ks := [2, 3, 4, 5, 6, 0]) (ls' := [(0, .ref 0), (1, .int v1), (2, .int v2), (3, .int v3), (4, .int v4), (5, .int (v5 + (-1)))]) rfl ?_
      exact k2 c0 x1 M1 w1 c1
    · skip
      refine pg_iload (pc := 63) (i := 6) (j := 0) (x := x1) dX10_mend_63 rfl ?_
      refine pg_iload (pc := 65) (i := 4) (j := 5) (x := v4) dX10_mend_65 rfl ?_
      refine pg_icmp_gt (pc := 67) (tgt := 93) dX10_mend_67 (by decide) (fun c2 => ?_) (fun c2 => ?_)
      · skip
        refine pg_iinc (pc := 93) (i := 5) (j := 6) (x := v5) (v := v5 + (-1)) (ls' := [(5, .int (v5 + (-1))), (6, .int x1), (0, .ref 0), (1, .int v1), (2, .int v2), (3, .int v3), (4, .int v4)]) dX10_mend_93 rfl rfl (by decide) rfl ?_
        refine pg_goto (pc := 96) (tgt := 38) dX10_mend_96 (by decide) ?_
        refine pg_drop (ks := [2, 3, 4, 5, 6, 0]) (ls' := [(0, .ref 0), (1, .int v1), (2, .int v2), (3, .int v3), (4, .int v4), (5, .int (v5 + (-1)))]) rfl ?_
        exact k3 c0 x1 M1 w1 c1 c2
      · skip
        refine pg_aload_n (pc := 70) (i := 0) (j := 1) (x := 0) dX10_mend_70 rfl rfl ?_
        refine gfX10_64 (pc := 71) rfl h0 dX10_mend_71 ?_
        refine pg_iload_n (pc := 74) (i := 2) (j := 3) (x := v2) dX10_mend_74 rfl rfl ?_
        refine pg_iload (pc := 75) (i := 5) (j := 6) (x := v5) dX10_mend_75 rfl ?_
        refine pg_iconst (pc := 77) (v := (-1)) dX10_mend_77 (by decide) ?_
        refine pg_ixor (pc := 78) dX10_mend_78 ?_
        refine pg_iand (pc := 79) dX10_mend_79 ?_
        refine pg_callV (pc := 80) (As := [.int (v2 &&& (v5 ^^^ (-1)))]) (st := []) okX5_clashesAmong lkX10_214 rfl (b0 c0 x1 M1 w1 c1 c2).1 rfl (Nat.le_refl _) (Nat.le_of_ble_eq_true rfl) (e1 c0 x1 M1 w1 c1 c2) dX10_mend_80 (fun r2 M2 w2 => ?_)
        obtain ⟨x2, rfl, w2⟩ := w2
        refine pg_if_ne (pc := 83) (tgt := 93) dX10_mend_83 (by decide) (fun c3 => ?_) (fun c3 => ?_)
        · skip
          refine pg_iinc (pc := 93) (i := 5) (j := 6) (x := v5) (v := v5 + (-1)) (ls' := [(5, .int (v5 + (-1))), (6, .int x1), (0, .ref 0), (1, .int v1), (2, .int v2), (3, .int v3), (4, .int v4)]) dX10_mend_93 rfl rfl (by decide) rfl ?_
          refine pg_goto (pc := 96) (tgt := 38) dX10_mend_96 (by decide) ?_
          refine pg_drop (ks := [2, 3, 4, 5, 6, 0]) (ls' := [(0, .ref 0), (1, .int v1), (2, .int v2), (3, .int v3), (4, .int v4), (5, .int (v5 + (-1)))]) rfl ?_
          exact k4 c0 x1 M1 w1 c1 c2 x2 M2 w2 c3
        · skip
          refine pg_iload (pc := 86) (i := 5) (j := 6) (x := v5) dX10_mend_86 rfl ?_
          refine pg_istore_n (pc := 88) (i := 3) (ls' := [(3, .int v5), (6, .int x1), (0, .ref 0), (1, .int v1), (2, .int v2), (4, .int v4), (5, .int v5)]) dX10_mend_88 rfl (by decide) rfl ?_
          refine pg_iload (pc := 89) (i := 6) (j := 1) (x := x1) dX10_mend_89 rfl ?_
          refine pg_istore (pc := 91) (i := 4) (ls' := [(4, .int x1), (3, .int v5), (6, .int x1), (0, .ref 0), (1, .int v1), (2, .int v2), (5, .int v5)]) dX10_mend_91 (by decide) rfl ?_
          refine pg_iinc (pc := 93) (i := 5) (j := 6) (x := v5) (v := v5 + (-1)) (ls' := [(5, .int (v5 + (-1))), (4, .int x1), (3, .int v5), (6, .int x1), (0, .ref 0), (1, .int v1), (2, .int v2)]) dX10_mend_93 rfl rfl (by decide) rfl ?_
          refine pg_goto (pc := 96) (tgt := 38) dX10_mend_96 (by decide) ?_
          refine pg_drop (ks := [4, 5, 6, 2, 1, 0]) (ls' := [(0, .ref 0), (1, .int v1), (2, .int v2), (3, .int v5), (4, .int x1), (5, .int (v5 + (-1)))]) rfl ?_
          exact k5 c0 x1 M1 w1 c1 c2 x2 M2 w2 c3
theorem oX10_mend {d : Nat} {v1 : Int32} (h : pg_At S Λ YX10_mend d 0 [(0, .ref 0), (1, .int v1)] [] M P) : pg_Ev S Λ YX10_mend d [.ref 0, .int v1] M P := pg_Ev.of (by decide) (by first | decide | exact Nat.le_of_ble_eq_true rfl) h
theorem sX10_fill_0 {v1 : Int32} {v2 : Int32} {Q0 : pg_M → Prop} {Q1 : Int32 → pg_M → Prop} {Q2 : pg_M → Prop}
    (h0 : pg_isX10 Λ)
    (h1 : pg_isX3 Λ)
    (h2 : pg_isX5 Λ (M.2.2 0 8))
    (k0 : (v1 < 1) → P (some (.int (-2))) M)
    (k1 : (¬ v1 < 1) → (6 < v1) → P (some (.int (-2))) M)
    (e0 : (¬ v1 < 1) → (¬ 6 < v1) → (v2 = (-1)) → pg_Ev S Λ YX3_plan d [.ref 153, .ref (M.2.2 0 8), .ref 3, .int v1] M (fun r M' => r = none ∧ Q0 M'))
    (b0 : (¬ v1 < 1) → (¬ 6 < v1) → (v2 = (-1)) → ∀ M1, Q0 M1 → (¬ v2 = (-1)) → vp_in v2 6)
    (k2 : (¬ v1 < 1) → (¬ 6 < v1) → (v2 = (-1)) → ∀ M1, Q0 M1 → (¬ v2 = (-1)) → P (some (.int (M1.1 160 v2.toNatClampNeg))) M1)
    (k3 : (¬ v1 < 1) → (¬ 6 < v1) → (v2 = (-1)) → ∀ M1, Q0 M1 → (v2 = (-1)) → P (some (.int (M1.1 153 9))) M1)
    (e1 : (¬ v1 < 1) → (¬ 6 < v1) → (¬ v2 = (-1)) → pg_Ev S Λ YX5_has d [.ref (M.2.2 0 8), .int v2] M (fun r M' => ∃ x, r = some (.int x) ∧ Q1 x M'))
    (e2 : (¬ v1 < 1) → (¬ 6 < v1) → (¬ v2 = (-1)) → ∀ x2 M2, Q1 x2 M2 → (¬ x2 = 0) → pg_Ev S Λ YX3_plan d [.ref 153, .ref (M2.2.2 0 8), .ref 3, .int v1] M2 (fun r M' => r = none ∧ Q2 M'))
    (b1 : (¬ v1 < 1) → (¬ 6 < v1) → (¬ v2 = (-1)) → ∀ x2 M2, Q1 x2 M2 → (¬ x2 = 0) → ∀ M3, Q2 M3 → (¬ v2 = (-1)) → vp_in v2 6)
    (k4 : (¬ v1 < 1) → (¬ 6 < v1) → (¬ v2 = (-1)) → ∀ x2 M2, Q1 x2 M2 → (¬ x2 = 0) → ∀ M3, Q2 M3 → (¬ v2 = (-1)) → P (some (.int (M3.1 160 v2.toNatClampNeg))) M3)
    (k5 : (¬ v1 < 1) → (¬ 6 < v1) → (¬ v2 = (-1)) → ∀ x2 M2, Q1 x2 M2 → (¬ x2 = 0) → ∀ M3, Q2 M3 → (v2 = (-1)) → P (some (.int (M3.1 153 9))) M3)
    (k6 : (¬ v1 < 1) → (¬ 6 < v1) → (¬ v2 = (-1)) → ∀ x2 M2, Q1 x2 M2 → (x2 = 0) → P (some (.int (-2))) M2) :
    pg_At S Λ YX10_fill (d + 1) 0 [(0, .ref 0), (1, .int v1), (2, .int v2)] [] M P := by
  refine pg_iload_n (pc := 0) (i := 1) (j := 1) (x := v1) dX10_fill_0 rfl rfl ?_
  refine pg_iconst (pc := 1) (v := 1) dX10_fill_1 (by decide) ?_
  refine pg_icmp_lt (pc := 2) (tgt := 27) dX10_fill_2 (by decide) (fun c0 => ?_) (fun c0 => ?_)
  · skip
    refine pg_bipush (pc := 27) (v := (-2)) dX10_fill_27 (by decide) ?_
    exact pg_iret (pc := 29) rfl dX10_fill_29 (k0 c0)
  · skip
    refine pg_iload_n (pc := 5) (i := 1) (j := 1) (x := v1) dX10_fill_5 rfl rfl ?_
    refine pg_bipush (pc := 6) (v := 6) dX10_fill_6 (by decide) ?_
    refine pg_icmp_gt (pc := 8) (tgt := 27) dX10_fill_8 (by decide) (fun c1 => ?_) (fun c1 => ?_)
    · skip
      refine pg_bipush (pc := 27) (v := (-2)) dX10_fill_27 (by decide) ?_
      exact pg_iret (pc := 29) rfl dX10_fill_29 (k1 c0 c1)
    · skip
      refine pg_iload_n (pc := 11) (i := 2) (j := 2) (x := v2) dX10_fill_11 rfl rfl ?_
      refine pg_iconst (pc := 12) (v := (-1)) dX10_fill_12 (by decide) ?_
      refine pg_icmp_eq (pc := 13) (tgt := 30) dX10_fill_13 (by decide) (fun c2 => ?_) (fun c2 => ?_)
      · skip
        refine pg_aload_n (pc := 30) (i := 0) (j := 0) (x := 0) dX10_fill_30 rfl rfl ?_
        refine gfX10_43 (pc := 31) rfl h0 dX10_fill_31 ?_
        refine pg_aload_n (pc := 34) (i := 0) (j := 0) (x := 0) dX10_fill_34 rfl rfl ?_
        refine gfX10_64 (pc := 35) rfl h0 dX10_fill_35 ?_
        refine pg_aload_n (pc := 38) (i := 0) (j := 0) (x := 0) dX10_fill_38 rfl rfl ?_
        refine gfX10_19 (pc := 39) rfl h0 dX10_fill_39 ?_
        refine pg_iload_n (pc := 42) (i := 1) (j := 1) (x := v1) dX10_fill_42 rfl rfl ?_
        refine pg_callV (pc := 43) (As := [.ref (M.2.2 0 8), .ref 3, .int v1]) (st := []) okX3_plan lkX10_220 rfl h1.1 rfl (Nat.le_refl _) (Nat.le_of_ble_eq_true rfl) (e0 c0 c1 c2) dX10_fill_43 (fun r1 M1 w1 => ?_)
        obtain ⟨rfl, w1⟩ := w1
        refine pg_iload_n (pc := 46) (i := 2) (j := 2) (x := v2) dX10_fill_46 rfl rfl ?_
        refine pg_iconst (pc := 47) (v := (-1)) dX10_fill_47 (by decide) ?_
        refine pg_icmp_ne (pc := 48) (tgt := 61) dX10_fill_48 (by decide) (fun c3 => ?_) (fun c3 => ?_)
        · skip
          refine pg_aload_n (pc := 61) (i := 0) (j := 0) (x := 0) dX10_fill_61 rfl rfl ?_
          refine gfX10_43 (pc := 62) rfl h0 dX10_fill_62 ?_
          refine gfX10_226 (pc := 65) rfl h1 dX10_fill_65 ?_
          refine pg_iload_n (pc := 68) (i := 2) (j := 2) (x := v2) dX10_fill_68 rfl rfl ?_
          refine pg_iald (pc := 69) h1.2.2.2.2.2.2.2 (b0 c0 c1 c2 M1 w1 c3) dX10_fill_69 ?_
          exact pg_iret (pc := 70) rfl dX10_fill_70 (k2 c0 c1 c2 M1 w1 c3)
        · skip
          refine pg_aload_n (pc := 51) (i := 0) (j := 0) (x := 0) dX10_fill_51 rfl rfl ?_
          refine gfX10_43 (pc := 52) rfl h0 dX10_fill_52 ?_
          refine gfX10_223 (pc := 55) rfl h1 dX10_fill_55 ?_
          refine pg_goto (pc := 58) (tgt := 70) dX10_fill_58 (by decide) ?_
          exact pg_iret (pc := 70) rfl dX10_fill_70 (k3 c0 c1 c2 M1 w1 c3)
      · skip
        refine pg_aload_n (pc := 16) (i := 0) (j := 0) (x := 0) dX10_fill_16 rfl rfl ?_
        refine gfX10_64 (pc := 17) rfl h0 dX10_fill_17 ?_
        refine pg_iload_n (pc := 20) (i := 2) (j := 2) (x := v2) dX10_fill_20 rfl rfl ?_
        refine pg_callV (pc := 21) (As := [.int v2]) (st := []) okX5_has lkX10_110 rfl h2.1 rfl (Nat.le_refl _) (Nat.le_of_ble_eq_true rfl) (e1 c0 c1 c2) dX10_fill_21 (fun r2 M2 w2 => ?_)
        obtain ⟨x2, rfl, w2⟩ := w2
        refine pg_if_ne (pc := 24) (tgt := 30) dX10_fill_24 (by decide) (fun c3 => ?_) (fun c3 => ?_)
        · skip
          refine pg_aload_n (pc := 30) (i := 0) (j := 0) (x := 0) dX10_fill_30 rfl rfl ?_
          refine gfX10_43 (pc := 31) rfl h0 dX10_fill_31 ?_
          refine pg_aload_n (pc := 34) (i := 0) (j := 0) (x := 0) dX10_fill_34 rfl rfl ?_
          refine gfX10_64 (pc := 35) rfl h0 dX10_fill_35 ?_
          refine pg_aload_n (pc := 38) (i := 0) (j := 0) (x := 0) dX10_fill_38 rfl rfl ?_
          refine gfX10_19 (pc := 39) rfl h0 dX10_fill_39 ?_
          refine pg_iload_n (pc := 42) (i := 1) (j := 1) (x := v1) dX10_fill_42 rfl rfl ?_
          refine pg_callV (pc := 43) (As := [.ref (M2.2.2 0 8), .ref 3, .int v1]) (st := []) okX3_plan lkX10_220 rfl h1.1 rfl (Nat.le_refl _) (Nat.le_of_ble_eq_true rfl) (e2 c0 c1 c2 x2 M2 w2 c3) dX10_fill_43 (fun r3 M3 w3 => ?_)
          obtain ⟨rfl, w3⟩ := w3
          refine pg_iload_n (pc := 46) (i := 2) (j := 2) (x := v2) dX10_fill_46 rfl rfl ?_
          refine pg_iconst (pc := 47) (v := (-1)) dX10_fill_47 (by decide) ?_
          refine pg_icmp_ne (pc := 48) (tgt := 61) dX10_fill_48 (by decide) (fun c4 => ?_) (fun c4 => ?_)
          · skip
            refine pg_aload_n (pc := 61) (i := 0) (j := 0) (x := 0) dX10_fill_61 rfl rfl ?_
            refine gfX10_43 (pc := 62) rfl h0 dX10_fill_62 ?_
            refine gfX10_226 (pc := 65) rfl h1 dX10_fill_65 ?_
            refine pg_iload_n (pc := 68) (i := 2) (j := 2) (x := v2) dX10_fill_68 rfl rfl ?_
            refine pg_iald (pc := 69) h1.2.2.2.2.2.2.2 (b1 c0 c1 c2 x2 M2 w2 c3 M3 w3 c4) dX10_fill_69 ?_
            exact pg_iret (pc := 70) rfl dX10_fill_70 (k4 c0 c1 c2 x2 M2 w2 c3 M3 w3 c4)
          · skip
            refine pg_aload_n (pc := 51) (i := 0) (j := 0) (x := 0) dX10_fill_51 rfl rfl ?_
            refine gfX10_43 (pc := 52) rfl h0 dX10_fill_52 ?_
            refine gfX10_223 (pc := 55) rfl h1 dX10_fill_55 ?_
            refine pg_goto (pc := 58) (tgt := 70) dX10_fill_58 (by decide) ?_
            exact pg_iret (pc := 70) rfl dX10_fill_70 (k5 c0 c1 c2 x2 M2 w2 c3 M3 w3 c4)
        · skip
          refine pg_bipush (pc := 27) (v := (-2)) dX10_fill_27 (by decide) ?_
          exact pg_iret (pc := 29) rfl dX10_fill_29 (k6 c0 c1 c2 x2 M2 w2 c3)
theorem oX10_fill {d : Nat} {v1 : Int32} {v2 : Int32} (h : pg_At S Λ YX10_fill d 0 [(0, .ref 0), (1, .int v1), (2, .int v2)] [] M P) : pg_Ev S Λ YX10_fill d [.ref 0, .int v1, .int v2] M P := pg_Ev.of (by decide) (by first | decide | exact Nat.le_of_ble_eq_true rfl) h
theorem sX10_odds_0 {v1 : Int32} {v2 : Int32} {Q0 : Int32 → pg_M → Prop} {Q1 : Int32 → pg_M → Prop}
    (h0 : pg_isX10 Λ)
    (h1 : pg_isX5 Λ (M.2.2 0 8))
    (h2 : pg_isX9 Λ 3)
    (h3 : pg_isX0 Λ)
    (e0 : pg_Ev S Λ YX5_has d [.ref (M.2.2 0 8), .int v1] M (fun r M' => ∃ x, r = some (.int x) ∧ Q0 x M'))
    (k0 : ∀ x1 M1, Q0 x1 M1 → (x1 = 0) → P (some (.int (-1))) M1)
    (b0 : ∀ x1 M1, Q0 x1 M1 → (¬ x1 = 0) → vp_in v1 6)
    (k1 : ∀ x1 M1, Q0 x1 M1 → (¬ x1 = 0) → ((M1.1 6 v1.toNatClampNeg) = 0) → P (some (.int (-1))) M1)
    (k2 : ∀ x1 M1, Q0 x1 M1 → (¬ x1 = 0) → (¬ (M1.1 6 v1.toNatClampNeg) = 0) → (v2 < 1) → P (some (.int (-1))) M1)
    (e1 : ∀ x1 M1, Q0 x1 M1 → (¬ x1 = 0) → (¬ (M1.1 6 v1.toNatClampNeg) = 0) → (¬ v2 < 1) → (v2 ≤ 8) → pg_Ev S Λ YX0_millionths d [.ref 161, .ref (M1.2.2 0 8), .ref 3, .int v1, .int v2] M1 (fun r M' => ∃ x, r = some (.int x) ∧ Q1 x M'))
    (k3 : ∀ x1 M1, Q0 x1 M1 → (¬ x1 = 0) → (¬ (M1.1 6 v1.toNatClampNeg) = 0) → (¬ v2 < 1) → (v2 ≤ 8) → ∀ x2 M2, Q1 x2 M2 → P (some (.int x2)) M2)
    (k4 : ∀ x1 M1, Q0 x1 M1 → (¬ x1 = 0) → (¬ (M1.1 6 v1.toNatClampNeg) = 0) → (¬ v2 < 1) → (¬ v2 ≤ 8) → P (some (.int (-1))) M1) :
    pg_At S Λ YX10_odds (d + 1) 0 [(0, .ref 0), (1, .int v1), (2, .int v2)] [] M P := by
  refine pg_aload_n (pc := 0) (i := 0) (j := 0) (x := 0) dX10_odds_0 rfl rfl ?_
  refine gfX10_64 (pc := 1) rfl h0 dX10_odds_1 ?_
  refine pg_iload_n (pc := 4) (i := 1) (j := 1) (x := v1) dX10_odds_4 rfl rfl ?_
  refine pg_callV (pc := 5) (As := [.int v1]) (st := []) okX5_has lkX10_110 rfl h1.1 rfl (Nat.le_refl _) (Nat.le_of_ble_eq_true rfl) e0 dX10_odds_5 (fun r1 M1 w1 => ?_)
  obtain ⟨x1, rfl, w1⟩ := w1
  refine pg_if_eq (pc := 8) (tgt := 34) dX10_odds_8 (by decide) (fun c0 => ?_) (fun c0 => ?_)
  · skip
    refine pg_iconst (pc := 34) (v := (-1)) dX10_odds_34 (by decide) ?_
    exact pg_iret (pc := 35) rfl dX10_odds_35 (k0 x1 M1 w1 c0)
  · skip
    refine pg_aload_n (pc := 11) (i := 0) (j := 0) (x := 0) dX10_odds_11 rfl rfl ?_
    refine gfX10_19 (pc := 12) rfl h0 dX10_odds_12 ?_
    refine gfX10_124 (pc := 15) rfl h2 dX10_odds_15 ?_
    refine pg_iload_n (pc := 18) (i := 1) (j := 1) (x := v1) dX10_odds_18 rfl rfl ?_
    refine pg_iald (pc := 19) h2.2.2.2.1 (b0 x1 M1 w1 c0) dX10_odds_19 ?_
    refine pg_if_eq (pc := 20) (tgt := 34) dX10_odds_20 (by decide) (fun c1 => ?_) (fun c1 => ?_)
    · skip
      refine pg_iconst (pc := 34) (v := (-1)) dX10_odds_34 (by decide) ?_
      exact pg_iret (pc := 35) rfl dX10_odds_35 (k1 x1 M1 w1 c0 c1)
    · skip
      refine pg_iload_n (pc := 23) (i := 2) (j := 2) (x := v2) dX10_odds_23 rfl rfl ?_
      refine pg_iconst (pc := 24) (v := 1) dX10_odds_24 (by decide) ?_
      refine pg_icmp_lt (pc := 25) (tgt := 34) dX10_odds_25 (by decide) (fun c2 => ?_) (fun c2 => ?_)
      · skip
        refine pg_iconst (pc := 34) (v := (-1)) dX10_odds_34 (by decide) ?_
        exact pg_iret (pc := 35) rfl dX10_odds_35 (k2 x1 M1 w1 c0 c1 c2)
      · skip
        refine pg_iload_n (pc := 28) (i := 2) (j := 2) (x := v2) dX10_odds_28 rfl rfl ?_
        refine pg_bipush (pc := 29) (v := 8) dX10_odds_29 (by decide) ?_
        refine pg_icmp_le (pc := 31) (tgt := 36) dX10_odds_31 (by decide) (fun c3 => ?_) (fun c3 => ?_)
        · skip
          refine pg_aload_n (pc := 36) (i := 0) (j := 0) (x := 0) dX10_odds_36 rfl rfl ?_
          refine gfX10_50 (pc := 37) rfl h0 dX10_odds_37 ?_
          refine pg_aload_n (pc := 40) (i := 0) (j := 0) (x := 0) dX10_odds_40 rfl rfl ?_
          refine gfX10_64 (pc := 41) rfl h0 dX10_odds_41 ?_
          refine pg_aload_n (pc := 44) (i := 0) (j := 0) (x := 0) dX10_odds_44 rfl rfl ?_
          refine gfX10_19 (pc := 45) rfl h0 dX10_odds_45 ?_
          refine pg_iload_n (pc := 48) (i := 1) (j := 1) (x := v1) dX10_odds_48 rfl rfl ?_
          refine pg_iload_n (pc := 49) (i := 2) (j := 2) (x := v2) dX10_odds_49 rfl rfl ?_
          refine pg_callV (pc := 50) (As := [.ref (M1.2.2 0 8), .ref 3, .int v1, .int v2]) (st := []) okX0_millionths lkX10_229 rfl h3.1 rfl (Nat.le_refl _) (Nat.le_of_ble_eq_true rfl) (e1 x1 M1 w1 c0 c1 c2 c3) dX10_odds_50 (fun r2 M2 w2 => ?_)
          obtain ⟨x2, rfl, w2⟩ := w2
          exact pg_iret (pc := 53) rfl dX10_odds_53 (k3 x1 M1 w1 c0 c1 c2 c3 x2 M2 w2)
        · skip
          refine pg_iconst (pc := 34) (v := (-1)) dX10_odds_34 (by decide) ?_
          exact pg_iret (pc := 35) rfl dX10_odds_35 (k4 x1 M1 w1 c0 c1 c2 c3)
theorem oX10_odds {d : Nat} {v1 : Int32} {v2 : Int32} (h : pg_At S Λ YX10_odds d 0 [(0, .ref 0), (1, .int v1), (2, .int v2)] [] M P) : pg_Ev S Λ YX10_odds d [.ref 0, .int v1, .int v2] M P := pg_Ev.of (by decide) (by first | decide | exact Nat.le_of_ble_eq_true rfl) h
theorem sX10_dry_0 {v1 : Int32} {Q0 : pg_M → Prop}
    (h0 : pg_isX10 Λ)
    (h1 : pg_isX4 Λ)
    (e0 : pg_Ev S Λ YX4_plan d [.ref 164, .ref (M.2.2 0 8), .ref 3] M (fun r M' => r = none ∧ Q0 M'))
    (k0 : ∀ M1, Q0 M1 → (¬ (M1.1 164 5) = (-1)) → (¬ v1 = 0) → (v1 < 1) → P (some (.int (-1))) M1)
    (k1 : ∀ M1, Q0 M1 → (¬ (M1.1 164 5) = (-1)) → (¬ v1 = 0) → (¬ v1 < 1) → ((M1.1 164 4) < v1) → P (some (.int (-1))) M1)
    (b0 : ∀ M1, Q0 M1 → (¬ (M1.1 164 5) = (-1)) → (¬ v1 = 0) → (¬ v1 < 1) → (¬ (M1.1 164 4) < v1) → vp_in (v1 - 1) 6)
    (k2 : ∀ M1, Q0 M1 → (¬ (M1.1 164 5) = (-1)) → (¬ v1 = 0) → (¬ v1 < 1) → (¬ (M1.1 164 4) < v1) → P (some (.int (M1.1 168 (v1 - 1).toNatClampNeg))) M1)
    (k3 : ∀ M1, Q0 M1 → (¬ (M1.1 164 5) = (-1)) → (v1 = 0) → P (some (.int (M1.1 164 5))) M1)
    (k4 : ∀ M1, Q0 M1 → ((M1.1 164 5) = (-1)) → P (some (.int (-1))) M1) :
    pg_At S Λ YX10_dry (d + 1) 0 [(0, .ref 0), (1, .int v1)] [] M P := by
  refine pg_aload_n (pc := 0) (i := 0) (j := 0) (x := 0) dX10_dry_0 rfl rfl ?_
  refine gfX10_57 (pc := 1) rfl h0 dX10_dry_1 ?_
  refine pg_aload_n (pc := 4) (i := 0) (j := 0) (x := 0) dX10_dry_4 rfl rfl ?_
  refine gfX10_64 (pc := 5) rfl h0 dX10_dry_5 ?_
  refine pg_aload_n (pc := 8) (i := 0) (j := 0) (x := 0) dX10_dry_8 rfl rfl ?_
  refine gfX10_19 (pc := 9) rfl h0 dX10_dry_9 ?_
  refine pg_callV (pc := 12) (As := [.ref (M.2.2 0 8), .ref 3]) (st := []) okX4_plan lkX10_233 rfl h1.1 rfl (Nat.le_refl _) (Nat.le_of_ble_eq_true rfl) e0 dX10_dry_12 (fun r1 M1 w1 => ?_)
  obtain ⟨rfl, w1⟩ := w1
  refine pg_aload_n (pc := 15) (i := 0) (j := 0) (x := 0) dX10_dry_15 rfl rfl ?_
  refine gfX10_57 (pc := 16) rfl h0 dX10_dry_16 ?_
  refine gfX10_235 (pc := 19) rfl h1 dX10_dry_19 ?_
  refine pg_iconst (pc := 22) (v := (-1)) dX10_dry_22 (by decide) ?_
  refine pg_icmp_ne (pc := 23) (tgt := 28) dX10_dry_23 (by decide) (fun c0 => ?_) (fun c0 => ?_)
  · skip
    refine pg_iload_n (pc := 28) (i := 1) (j := 1) (x := v1) dX10_dry_28 rfl rfl ?_
    refine pg_if_ne (pc := 29) (tgt := 40) dX10_dry_29 (by decide) (fun c1 => ?_) (fun c1 => ?_)
    · skip
      refine pg_iload_n (pc := 40) (i := 1) (j := 1) (x := v1) dX10_dry_40 rfl rfl ?_
      refine pg_iconst (pc := 41) (v := 1) dX10_dry_41 (by decide) ?_
      refine pg_icmp_lt (pc := 42) (tgt := 70) dX10_dry_42 (by decide) (fun c2 => ?_) (fun c2 => ?_)
      · skip
        refine pg_iconst (pc := 70) (v := (-1)) dX10_dry_70 (by decide) ?_
        exact pg_iret (pc := 71) rfl dX10_dry_71 (k0 M1 w1 c0 c1 c2)
      · skip
        refine pg_iload_n (pc := 45) (i := 1) (j := 1) (x := v1) dX10_dry_45 rfl rfl ?_
        refine pg_aload_n (pc := 46) (i := 0) (j := 0) (x := 0) dX10_dry_46 rfl rfl ?_
        refine gfX10_57 (pc := 47) rfl h0 dX10_dry_47 ?_
        refine gfX10_238 (pc := 50) rfl h1 dX10_dry_50 ?_
        refine pg_icmp_gt (pc := 53) (tgt := 70) dX10_dry_53 (by decide) (fun c3 => ?_) (fun c3 => ?_)
        · skip
          refine pg_iconst (pc := 70) (v := (-1)) dX10_dry_70 (by decide) ?_
          exact pg_iret (pc := 71) rfl dX10_dry_71 (k1 M1 w1 c0 c1 c2 c3)
        · skip
          refine pg_aload_n (pc := 56) (i := 0) (j := 0) (x := 0) dX10_dry_56 rfl rfl ?_
          refine gfX10_57 (pc := 57) rfl h0 dX10_dry_57 ?_
          refine gfX10_241 (pc := 60) rfl h1 dX10_dry_60 ?_
          refine pg_iload_n (pc := 63) (i := 1) (j := 1) (x := v1) dX10_dry_63 rfl rfl ?_
          refine pg_iconst (pc := 64) (v := 1) dX10_dry_64 (by decide) ?_
          refine pg_isub (pc := 65) dX10_dry_65 ?_
          refine pg_iald (pc := 66) h1.2.2.2.2 (b0 M1 w1 c0 c1 c2 c3) dX10_dry_66 ?_
          refine pg_goto (pc := 67) (tgt := 71) dX10_dry_67 (by decide) ?_
          exact pg_iret (pc := 71) rfl dX10_dry_71 (k2 M1 w1 c0 c1 c2 c3)
    · skip
      refine pg_aload_n (pc := 32) (i := 0) (j := 0) (x := 0) dX10_dry_32 rfl rfl ?_
      refine gfX10_57 (pc := 33) rfl h0 dX10_dry_33 ?_
      refine gfX10_235 (pc := 36) rfl h1 dX10_dry_36 ?_
      exact pg_iret (pc := 39) rfl dX10_dry_39 (k3 M1 w1 c0 c1)
  · skip
    refine pg_iconst (pc := 26) (v := (-1)) dX10_dry_26 (by decide) ?_
    exact pg_iret (pc := 27) rfl dX10_dry_27 (k4 M1 w1 c0)
theorem oX10_dry {d : Nat} {v1 : Int32} (h : pg_At S Λ YX10_dry d 0 [(0, .ref 0), (1, .int v1)] [] M P) : pg_Ev S Λ YX10_dry d [.ref 0, .int v1] M P := pg_Ev.of (by decide) (by first | decide | exact Nat.le_of_ble_eq_true rfl) h
theorem sX10_feel_0 {v1 : Int32} {v2 : Int32} {v3 : Int32} {Q0 : Int32 → pg_M → Prop} {Q1 : Int32 → pg_M → Prop}
    (h0 : pg_isX10 Λ)
    (h1 : pg_isX5 Λ (M.2.2 0 8))
    (h2 : pg_isX2 Λ 13)
    (e0 : pg_Ev S Λ YX5_has d [.ref (M.2.2 0 8), .int v1] M (fun r M' => ∃ x, r = some (.int x) ∧ Q0 x M'))
    (k0 : ∀ x1 M1, Q0 x1 M1 → (x1 = 0) → P (some (.int 0)) M1)
    (k1 : ∀ x1 M1, Q0 x1 M1 → (¬ x1 = 0) → (v2 < 0) → P (some (.int 0)) M1)
    (k2 : ∀ x1 M1, Q0 x1 M1 → (¬ x1 = 0) → (¬ v2 < 0) → (12 < v2) → P (some (.int 0)) M1)
    (k3 : ∀ x1 M1, Q0 x1 M1 → (¬ x1 = 0) → (¬ v2 < 0) → (¬ 12 < v2) → (v3 < 0) → P (some (.int 0)) M1)
    (e1 : ∀ x1 M1, Q0 x1 M1 → (¬ x1 = 0) → (¬ v2 < 0) → (¬ 12 < v2) → (¬ v3 < 0) → (v3 ≤ 9) → pg_Ev S Λ YX2_add d [.ref 13, .int v1, .int v2, .int v3] M1 (fun r M' => ∃ x, r = some (.int x) ∧ Q1 x M'))
    (k4 : ∀ x1 M1, Q0 x1 M1 → (¬ x1 = 0) → (¬ v2 < 0) → (¬ 12 < v2) → (¬ v3 < 0) → (v3 ≤ 9) → ∀ x2 M2, Q1 x2 M2 → P (some (.int x2)) M2)
    (b0 : ∀ x1 M1, Q0 x1 M1 → (¬ x1 = 0) → (¬ v2 < 0) → (¬ 12 < v2) → (¬ v3 < 0) → (v3 ≤ 9) → ∀ x2 M2, Q1 x2 M2 → narrow .boolean (.int x2) = .int x2)
    (k5 : ∀ x1 M1, Q0 x1 M1 → (¬ x1 = 0) → (¬ v2 < 0) → (¬ 12 < v2) → (¬ v3 < 0) → (¬ v3 ≤ 9) → P (some (.int 0)) M1) :
    pg_At S Λ YX10_feel (d + 1) 0 [(0, .ref 0), (1, .int v1), (2, .int v2), (3, .int v3)] [] M P := by
  refine pg_aload_n (pc := 0) (i := 0) (j := 0) (x := 0) dX10_feel_0 rfl rfl ?_
  refine gfX10_64 (pc := 1) rfl h0 dX10_feel_1 ?_
  refine pg_iload_n (pc := 4) (i := 1) (j := 1) (x := v1) dX10_feel_4 rfl rfl ?_
  refine pg_callV (pc := 5) (As := [.int v1]) (st := []) okX5_has lkX10_110 rfl h1.1 rfl (Nat.le_refl _) (Nat.le_of_ble_eq_true rfl) e0 dX10_feel_5 (fun r1 M1 w1 => ?_)
  obtain ⟨x1, rfl, w1⟩ := w1
  refine pg_if_eq (pc := 8) (tgt := 31) dX10_feel_8 (by decide) (fun c0 => ?_) (fun c0 => ?_)
  · skip
    refine pg_iconst (pc := 31) (v := 0) dX10_feel_31 (by decide) ?_
    exact pg_zret (pc := 32) rfl rfl dX10_feel_32 (k0 x1 M1 w1 c0)
  · skip
    refine pg_iload_n (pc := 11) (i := 2) (j := 2) (x := v2) dX10_feel_11 rfl rfl ?_
    refine pg_if_lt (pc := 12) (tgt := 31) dX10_feel_12 (by decide) (fun c1 => ?_) (fun c1 => ?_)
    · skip
      refine pg_iconst (pc := 31) (v := 0) dX10_feel_31 (by decide) ?_
      exact pg_zret (pc := 32) rfl rfl dX10_feel_32 (k1 x1 M1 w1 c0 c1)
    · skip
      refine pg_iload_n (pc := 15) (i := 2) (j := 2) (x := v2) dX10_feel_15 rfl rfl ?_
      refine pg_bipush (pc := 16) (v := 12) dX10_feel_16 (by decide) ?_
      refine pg_icmp_gt (pc := 18) (tgt := 31) dX10_feel_18 (by decide) (fun c2 => ?_) (fun c2 => ?_)
      · skip
        refine pg_iconst (pc := 31) (v := 0) dX10_feel_31 (by decide) ?_
        exact pg_zret (pc := 32) rfl rfl dX10_feel_32 (k2 x1 M1 w1 c0 c1 c2)
      · skip
        refine pg_iload_n (pc := 21) (i := 3) (j := 3) (x := v3) dX10_feel_21 rfl rfl ?_
        refine pg_if_lt (pc := 22) (tgt := 31) dX10_feel_22 (by decide) (fun c3 => ?_) (fun c3 => ?_)
        · skip
          refine pg_iconst (pc := 31) (v := 0) dX10_feel_31 (by decide) ?_
          exact pg_zret (pc := 32) rfl rfl dX10_feel_32 (k3 x1 M1 w1 c0 c1 c2 c3)
        · skip
          refine pg_iload_n (pc := 25) (i := 3) (j := 3) (x := v3) dX10_feel_25 rfl rfl ?_
          refine pg_bipush (pc := 26) (v := 9) dX10_feel_26 (by decide) ?_
          refine pg_icmp_le (pc := 28) (tgt := 33) dX10_feel_28 (by decide) (fun c4 => ?_) (fun c4 => ?_)
          · skip
            refine pg_aload_n (pc := 33) (i := 0) (j := 0) (x := 0) dX10_feel_33 rfl rfl ?_
            refine gfX10_29 (pc := 34) rfl h0 dX10_feel_34 ?_
            refine pg_iload_n (pc := 37) (i := 1) (j := 1) (x := v1) dX10_feel_37 rfl rfl ?_
            refine pg_iload_n (pc := 38) (i := 2) (j := 2) (x := v2) dX10_feel_38 rfl rfl ?_
            refine pg_iload_n (pc := 39) (i := 3) (j := 3) (x := v3) dX10_feel_39 rfl rfl ?_
            refine pg_callV (pc := 40) (As := [.int v1, .int v2, .int v3]) (st := []) okX2_add lkX10_244 rfl h2.1 rfl (Nat.le_refl _) (Nat.le_of_ble_eq_true rfl) (e1 x1 M1 w1 c0 c1 c2 c3 c4) dX10_feel_40 (fun r2 M2 w2 => ?_)
            obtain ⟨x2, rfl, w2⟩ := w2
            exact pg_zret (pc := 43) rfl (b0 x1 M1 w1 c0 c1 c2 c3 c4 x2 M2 w2) dX10_feel_43 (k4 x1 M1 w1 c0 c1 c2 c3 c4 x2 M2 w2)
          · skip
            refine pg_iconst (pc := 31) (v := 0) dX10_feel_31 (by decide) ?_
            exact pg_zret (pc := 32) rfl rfl dX10_feel_32 (k5 x1 M1 w1 c0 c1 c2 c3 c4)
theorem oX10_feel {d : Nat} {v1 : Int32} {v2 : Int32} {v3 : Int32} (h : pg_At S Λ YX10_feel d 0 [(0, .ref 0), (1, .int v1), (2, .int v2), (3, .int v3)] [] M P) : pg_Ev S Λ YX10_feel d [.ref 0, .int v1, .int v2, .int v3] M P := pg_Ev.of (by decide) (by first | decide | exact Nat.le_of_ble_eq_true rfl) h
theorem sX10_starts_0  {Q0 : Int32 → pg_M → Prop}
    (h0 : pg_isX10 Λ)
    (h1 : pg_isX2 Λ 13)
    (e0 : pg_Ev S Λ YX2_startBits d [.ref 13, .ref (M.2.2 0 8)] M (fun r M' => ∃ x, r = some (.int x) ∧ Q0 x M'))
    (k0 : ∀ x1 M1, Q0 x1 M1 → P (some (.int x1)) M1) :
    pg_At S Λ YX10_starts (d + 1) 0 [(0, .ref 0)] [] M P := by
  refine pg_aload_n (pc := 0) (i := 0) (j := 0) (x := 0) dX10_starts_0 rfl rfl ?_
  refine gfX10_29 (pc := 1) rfl h0 dX10_starts_1 ?_
  refine pg_aload_n (pc := 4) (i := 0) (j := 0) (x := 0) dX10_starts_4 rfl rfl ?_
  refine gfX10_64 (pc := 5) rfl h0 dX10_starts_5 ?_
  refine pg_callV (pc := 8) (As := [.ref (M.2.2 0 8)]) (st := []) okX2_startBits lkX10_248 rfl h1.1 rfl (Nat.le_refl _) (Nat.le_of_ble_eq_true rfl) e0 dX10_starts_8 (fun r1 M1 w1 => ?_)
  obtain ⟨x1, rfl, w1⟩ := w1
  exact pg_iret (pc := 11) rfl dX10_starts_11 (k0 x1 M1 w1)
theorem oX10_starts {d : Nat}  (h : pg_At S Λ YX10_starts d 0 [(0, .ref 0)] [] M P) : pg_Ev S Λ YX10_starts d [.ref 0] M P := pg_Ev.of (by decide) (by first | decide | exact Nat.le_of_ble_eq_true rfl) h
theorem sX10_ask_0 {v1 : Int32} {Q0 : Int32 → pg_M → Prop} {Q1 : Int32 → pg_M → Prop}
    (h0 : pg_isX10 Λ)
    (h1 : pg_isX5 Λ (M.2.2 0 8))
    (h2 : pg_isX2 Λ 13)
    (e0 : pg_Ev S Λ YX5_has d [.ref (M.2.2 0 8), .int v1] M (fun r M' => ∃ x, r = some (.int x) ∧ Q0 x M'))
    (k0 : ∀ x1 M1, Q0 x1 M1 → (x1 = 0) → P (some (.int (-1))) M1)
    (e1 : ∀ x1 M1, Q0 x1 M1 → (¬ x1 = 0) → pg_Ev S Λ YX2_bestHours d [.ref 13, .ref (M1.2.2 0 8), .int v1] M1 (fun r M' => ∃ x, r = some (.int x) ∧ Q1 x M'))
    (k1 : ∀ x1 M1, Q0 x1 M1 → (¬ x1 = 0) → ∀ x2 M2, Q1 x2 M2 → P (some (.int x2)) M2) :
    pg_At S Λ YX10_ask (d + 1) 0 [(0, .ref 0), (1, .int v1)] [] M P := by
  refine pg_aload_n (pc := 0) (i := 0) (j := 0) (x := 0) dX10_ask_0 rfl rfl ?_
  refine gfX10_64 (pc := 1) rfl h0 dX10_ask_1 ?_
  refine pg_iload_n (pc := 4) (i := 1) (j := 1) (x := v1) dX10_ask_4 rfl rfl ?_
  refine pg_callV (pc := 5) (As := [.int v1]) (st := []) okX5_has lkX10_110 rfl h1.1 rfl (Nat.le_refl _) (Nat.le_of_ble_eq_true rfl) e0 dX10_ask_5 (fun r1 M1 w1 => ?_)
  obtain ⟨x1, rfl, w1⟩ := w1
  refine pg_if_eq (pc := 8) (tgt := 26) dX10_ask_8 (by decide) (fun c0 => ?_) (fun c0 => ?_)
  · skip
    refine pg_iconst (pc := 26) (v := (-1)) dX10_ask_26 (by decide) ?_
    exact pg_iret (pc := 27) rfl dX10_ask_27 (k0 x1 M1 w1 c0)
  · skip
    refine pg_aload_n (pc := 11) (i := 0) (j := 0) (x := 0) dX10_ask_11 rfl rfl ?_
    refine gfX10_29 (pc := 12) rfl h0 dX10_ask_12 ?_
    refine pg_aload_n (pc := 15) (i := 0) (j := 0) (x := 0) dX10_ask_15 rfl rfl ?_
    refine gfX10_64 (pc := 16) rfl h0 dX10_ask_16 ?_
    refine pg_iload_n (pc := 19) (i := 1) (j := 1) (x := v1) dX10_ask_19 rfl rfl ?_
    refine pg_callV (pc := 20) (As := [.ref (M1.2.2 0 8), .int v1]) (st := []) okX2_bestHours lkX10_251 rfl h2.1 rfl (Nat.le_refl _) (Nat.le_of_ble_eq_true rfl) (e1 x1 M1 w1 c0) dX10_ask_20 (fun r2 M2 w2 => ?_)
    obtain ⟨x2, rfl, w2⟩ := w2
    refine pg_goto (pc := 23) (tgt := 27) dX10_ask_23 (by decide) ?_
    exact pg_iret (pc := 27) rfl dX10_ask_27 (k1 x1 M1 w1 c0 x2 M2 w2)
theorem oX10_ask {d : Nat} {v1 : Int32} (h : pg_At S Λ YX10_ask d 0 [(0, .ref 0), (1, .int v1)] [] M P) : pg_Ev S Λ YX10_ask d [.ref 0, .int v1] M P := pg_Ev.of (by decide) (by first | decide | exact Nat.le_of_ble_eq_true rfl) h
theorem sX10_change_0 {v1 : Int32} {Q0 : Int32 → pg_M → Prop}
    (h0 : pg_isX10 Λ)
    (k0 : (v1 < 1) → P (some (.int (-1))) M)
    (e0 : (¬ v1 < 1) → (v1 ≤ 20) → pg_Ev S Λ YX10_worthBehind d [.ref 0, .int v1, .int (-1)] M (fun r M' => ∃ x, r = some (.int x) ∧ Q0 x M'))
    (k1 : (¬ v1 < 1) → (v1 ≤ 20) → ∀ x1 M1, Q0 x1 M1 → pg_At S Λ YX10_change (d + 1) 25 [(0, .ref 0), (1, .int v1), (2, .int (-1)), (3, .int x1), (4, .int 0)] [] M1 P)
    (k2 : (¬ v1 < 1) → (¬ v1 ≤ 20) → P (some (.int (-1))) M) :
    pg_At S Λ YX10_change (d + 1) 0 [(0, .ref 0), (1, .int v1)] [] M P := by
  refine pg_iload_n (pc := 0) (i := 1) (j := 1) (x := v1) dX10_change_0 rfl rfl ?_
  refine pg_iconst (pc := 1) (v := 1) dX10_change_1 (by decide) ?_
  refine pg_icmp_lt (pc := 2) (tgt := 11) dX10_change_2 (by decide) (fun c0 => ?_) (fun c0 => ?_)
  · skip
    refine pg_iconst (pc := 11) (v := (-1)) dX10_change_11 (by decide) ?_
    exact pg_iret (pc := 12) rfl dX10_change_12 (k0 c0)
  · skip
    refine pg_iload_n (pc := 5) (i := 1) (j := 1) (x := v1) dX10_change_5 rfl rfl ?_
    refine pg_bipush (pc := 6) (v := 20) dX10_change_6 (by decide) ?_
    refine pg_icmp_le (pc := 8) (tgt := 13) dX10_change_8 (by decide) (fun c1 => ?_) (fun c1 => ?_)
    · skip
      refine pg_iconst (pc := 13) (v := (-1)) dX10_change_13 (by decide) ?_
      refine pg_istore_n (pc := 14) (i := 2) (ls' := [(2, .int (-1)), (0, .ref 0), (1, .int v1)]) dX10_change_14 rfl (by decide) rfl ?_
      refine pg_aload_n (pc := 15) (i := 0) (j := 1) (x := 0) dX10_change_15 rfl rfl ?_
      refine pg_iload_n (pc := 16) (i := 1) (j := 2) (x := v1) dX10_change_16 rfl rfl ?_
      refine pg_iconst (pc := 17) (v := (-1)) dX10_change_17 (by decide) ?_
      refine pg_callV (pc := 18) (As := [.int v1, .int (-1)]) (st := []) okX10_worthBehind lkX10_254 rfl h0 rfl (Nat.le_refl _) (Nat.le_of_ble_eq_true rfl) (e0 c0 c1) dX10_change_18 (fun r1 M1 w1 => ?_)
      obtain ⟨x1, rfl, w1⟩ := w1
      refine pg_istore_n (pc := 21) (i := 3) (ls' := [(3, .int x1), (2, .int (-1)), (0, .ref 0), (1, .int v1)]) dX10_change_21 rfl (by decide) rfl ?_
      refine pg_iconst (pc := 22) (v := 0) dX10_change_22 (by decide) ?_
      refine pg_istore (pc := 23) (i := 4) (ls' := [(4, .int 0), (3, .int x1), (2, .int (-1)), (0, .ref 0), (1, .int v1)]) dX10_change_23 (by decide) rfl ?_
      refine pg_drop (ks := [3, 4, 2, 1, 0]) (ls' := [(0, .ref 0), (1, .int v1), (2, .int (-1)), (3, .int x1), (4, .int 0)]) rfl ?_
      exact k1 c0 c1 x1 M1 w1
    · skip
      refine pg_iconst (pc := 11) (v := (-1)) dX10_change_11 (by decide) ?_
      exact pg_iret (pc := 12) rfl dX10_change_12 (k2 c0 c1)
theorem sX10_change_25 {v1 : Int32} {v2 : Int32} {v3 : Int32} {v4 : Int32} {Q0 : Int32 → pg_M → Prop}
    (h0 : pg_isX10 Λ)
    (h1 : pg_isX9 Λ 3)
    (k0 : ((M.1 3 4) ≤ v4) → P (some (.int v2)) M)
    (e0 : (¬ (M.1 3 4) ≤ v4) → pg_Ev S Λ YX10_worthBehind d [.ref 0, .int v1, .int v4] M (fun r M' => ∃ x, r = some (.int x) ∧ Q0 x M'))
    (k1 : (¬ (M.1 3 4) ≤ v4) → ∀ x1 M1, Q0 x1 M1 → (x1 ≤ v3) → pg_At S Λ YX10_change (d + 1) 25 [(0, .ref 0), (1, .int v1), (2, .int v2), (3, .int v3), (4, .int (v4 + 1))] [] M1 P)
    (k2 : (¬ (M.1 3 4) ≤ v4) → ∀ x1 M1, Q0 x1 M1 → (¬ x1 ≤ v3) → pg_At S Λ YX10_change (d + 1) 25 [(0, .ref 0), (1, .int v1), (2, .int v4), (3, .int x1), (4, .int (v4 + 1))] [] M1 P) :
    pg_At S Λ YX10_change (d + 1) 25 [(0, .ref 0), (1, .int v1), (2, .int v2), (3, .int v3), (4, .int v4)] [] M P := by
  refine pg_iload (pc := 25) (i := 4) (j := 4) (x := v4) dX10_change_25 rfl ?_
  refine pg_aload_n (pc := 27) (i := 0) (j := 0) (x := 0) dX10_change_27 rfl rfl ?_
  refine gfX10_19 (pc := 28) rfl h0 dX10_change_28 ?_
  refine gfX10_149 (pc := 31) rfl h1 dX10_change_31 ?_
  refine pg_icmp_ge (pc := 34) (tgt := 64) dX10_change_34 (by decide) (fun c0 => ?_) (fun c0 => ?_)
  · skip
    refine pg_iload_n (pc := 64) (i := 2) (j := 2) (x := v2) dX10_change_64 rfl rfl ?_
    exact pg_iret (pc := 65) rfl dX10_change_65 (k0 c0)
  · skip
    refine pg_aload_n (pc := 37) (i := 0) (j := 0) (x := 0) dX10_change_37 rfl rfl ?_
    refine pg_iload_n (pc := 38) (i := 1) (j := 1) (x := v1) dX10_change_38 rfl rfl ?_
    refine pg_iload (pc := 39) (i := 4) (j := 4) (x := v4) dX10_change_39 rfl ?_
    refine pg_callV (pc := 41) (As := [.int v1, .int v4]) (st := []) okX10_worthBehind lkX10_254 rfl h0 rfl (Nat.le_refl _) (Nat.le_of_ble_eq_true rfl) (e0 c0) dX10_change_41 (fun r1 M1 w1 => ?_)
    obtain ⟨x1, rfl, w1⟩ := w1
    refine pg_istore (pc := 44) (i := 5) (ls' := [(5, .int x1), (0, .ref 0), (1, .int v1), (2, .int v2), (3, .int v3), (4, .int v4)]) dX10_change_44 (by decide) rfl ?_
    refine pg_iload (pc := 46) (i := 5) (j := 0) (x := x1) dX10_change_46 rfl ?_
    refine pg_iload_n (pc := 48) (i := 3) (j := 4) (x := v3) dX10_change_48 rfl rfl ?_
    refine pg_icmp_le (pc := 49) (tgt := 58) dX10_change_49 (by decide) (fun c1 => ?_) (fun c1 => ?_)
    · skip
      refine pg_iinc (pc := 58) (i := 4) (j := 5) (x := v4) (v := v4 + 1) (ls' := [(4, .int (v4 + 1)), (5, .int x1), (0, .ref 0), (1, .int v1), (2, .int v2), (3, .int v3)]) dX10_change_58 rfl rfl (by decide) rfl ?_
      refine pg_goto (pc := 61) (tgt := 25) dX10_change_61 (by decide) ?_
      refine pg_drop (ks := [2, 3, 4, 5, 0]) (ls' := [(0, .ref 0), (1, .int v1), (2, .int v2), (3, .int v3), (4, .int (v4 + 1))]) rfl ?_
      exact k1 c0 x1 M1 w1 c1
    · skip
      refine pg_iload (pc := 52) (i := 4) (j := 5) (x := v4) dX10_change_52 rfl ?_
      refine pg_istore_n (pc := 54) (i := 2) (ls' := [(2, .int v4), (5, .int x1), (0, .ref 0), (1, .int v1), (3, .int v3), (4, .int v4)]) dX10_change_54 rfl (by decide) rfl ?_
      refine pg_iload (pc := 55) (i := 5) (j := 1) (x := x1) dX10_change_55 rfl ?_
      refine pg_istore_n (pc := 57) (i := 3) (ls' := [(3, .int x1), (2, .int v4), (5, .int x1), (0, .ref 0), (1, .int v1), (4, .int v4)]) dX10_change_57 rfl (by decide) rfl ?_
      refine pg_iinc (pc := 58) (i := 4) (j := 5) (x := v4) (v := v4 + 1) (ls' := [(4, .int (v4 + 1)), (3, .int x1), (2, .int v4), (5, .int x1), (0, .ref 0), (1, .int v1)]) dX10_change_58 rfl rfl (by decide) rfl ?_
      refine pg_goto (pc := 61) (tgt := 25) dX10_change_61 (by decide) ?_
      refine pg_drop (ks := [4, 5, 2, 1, 0]) (ls' := [(0, .ref 0), (1, .int v1), (2, .int v4), (3, .int x1), (4, .int (v4 + 1))]) rfl ?_
      exact k2 c0 x1 M1 w1 c1
theorem oX10_change {d : Nat} {v1 : Int32} (h : pg_At S Λ YX10_change d 0 [(0, .ref 0), (1, .int v1)] [] M P) : pg_Ev S Λ YX10_change d [.ref 0, .int v1] M P := pg_Ev.of (by decide) (by first | decide | exact Nat.le_of_ble_eq_true rfl) h
theorem sX10_decades_0 {v1 : Int32} {v2 : Int32} {v3 : Int32} {Q0 : pg_M → Prop}
    (h0 : pg_isX10 Λ)
    (h1 : pg_isX9 Λ 8)
    (k0 : (v1 < 0) → P (some (.int (-1))) M)
    (k1 : (¬ v1 < 0) → (9999 < v1) → P (some (.int (-1))) M)
    (k2 : (¬ v1 < 0) → (¬ 9999 < v1) → (v2 < 1) → P (some (.int (-1))) M)
    (k3 : (¬ v1 < 0) → (¬ 9999 < v1) → (¬ v2 < 1) → (60 < v2) → P (some (.int (-1))) M)
    (k4 : (¬ v1 < 0) → (¬ 9999 < v1) → (¬ v2 < 1) → (¬ 60 < v2) → (v3 < 0) → P (some (.int (-1))) M)
    (e0 : (¬ v1 < 0) → (¬ 9999 < v1) → (¬ v2 < 1) → (¬ 60 < v2) → (¬ v3 < 0) → (v3 ≤ 2) → pg_Ev S Λ YX9_copyFrom d [.ref 8, .ref 3] (pg_sj M 0 12 v1.toInt64) (fun r M' => r = none ∧ Q0 M'))
    (k5 : (¬ v1 < 0) → (¬ 9999 < v1) → (¬ v2 < 1) → (¬ 60 < v2) → (¬ v3 < 0) → (v3 ≤ 2) → ∀ M1, Q0 M1 → pg_At S Λ YX10_decades (d + 1) 59 [(0, .ref 0), (2, .int v2), (3, .int v3), (4, .int 0), (5, .int 0), (6, .int 0)] [] M1 P)
    (k6 : (¬ v1 < 0) → (¬ 9999 < v1) → (¬ v2 < 1) → (¬ 60 < v2) → (¬ v3 < 0) → (¬ v3 ≤ 2) → P (some (.int (-1))) M) :
    pg_At S Λ YX10_decades (d + 1) 0 [(0, .ref 0), (1, .int v1), (2, .int v2), (3, .int v3)] [] M P := by
  refine pg_iload_n (pc := 0) (i := 1) (j := 1) (x := v1) dX10_decades_0 rfl rfl ?_
  refine pg_if_lt (pc := 1) (tgt := 31) dX10_decades_1 (by decide) (fun c0 => ?_) (fun c0 => ?_)
  · skip
    refine pg_iconst (pc := 31) (v := (-1)) dX10_decades_31 (by decide) ?_
    exact pg_iret (pc := 32) rfl dX10_decades_32 (k0 c0)
  · skip
    refine pg_iload_n (pc := 4) (i := 1) (j := 1) (x := v1) dX10_decades_4 rfl rfl ?_
    refine pg_sipush (pc := 5) (v := 9999) dX10_decades_5 (by decide) ?_
    refine pg_icmp_gt (pc := 8) (tgt := 31) dX10_decades_8 (by decide) (fun c1 => ?_) (fun c1 => ?_)
    · skip
      refine pg_iconst (pc := 31) (v := (-1)) dX10_decades_31 (by decide) ?_
      exact pg_iret (pc := 32) rfl dX10_decades_32 (k1 c0 c1)
    · skip
      refine pg_iload_n (pc := 11) (i := 2) (j := 2) (x := v2) dX10_decades_11 rfl rfl ?_
      refine pg_iconst (pc := 12) (v := 1) dX10_decades_12 (by decide) ?_
      refine pg_icmp_lt (pc := 13) (tgt := 31) dX10_decades_13 (by decide) (fun c2 => ?_) (fun c2 => ?_)
      · skip
        refine pg_iconst (pc := 31) (v := (-1)) dX10_decades_31 (by decide) ?_
        exact pg_iret (pc := 32) rfl dX10_decades_32 (k2 c0 c1 c2)
      · skip
        refine pg_iload_n (pc := 16) (i := 2) (j := 2) (x := v2) dX10_decades_16 rfl rfl ?_
        refine pg_bipush (pc := 17) (v := 60) dX10_decades_17 (by decide) ?_
        refine pg_icmp_gt (pc := 19) (tgt := 31) dX10_decades_19 (by decide) (fun c3 => ?_) (fun c3 => ?_)
        · skip
          refine pg_iconst (pc := 31) (v := (-1)) dX10_decades_31 (by decide) ?_
          exact pg_iret (pc := 32) rfl dX10_decades_32 (k3 c0 c1 c2 c3)
        · skip
          refine pg_iload_n (pc := 22) (i := 3) (j := 3) (x := v3) dX10_decades_22 rfl rfl ?_
          refine pg_if_lt (pc := 23) (tgt := 31) dX10_decades_23 (by decide) (fun c4 => ?_) (fun c4 => ?_)
          · skip
            refine pg_iconst (pc := 31) (v := (-1)) dX10_decades_31 (by decide) ?_
            exact pg_iret (pc := 32) rfl dX10_decades_32 (k4 c0 c1 c2 c3 c4)
          · skip
            refine pg_iload_n (pc := 26) (i := 3) (j := 3) (x := v3) dX10_decades_26 rfl rfl ?_
            refine pg_iconst (pc := 27) (v := 2) dX10_decades_27 (by decide) ?_
            refine pg_icmp_le (pc := 28) (tgt := 33) dX10_decades_28 (by decide) (fun c5 => ?_) (fun c5 => ?_)
            · skip
              refine pg_aload_n (pc := 33) (i := 0) (j := 0) (x := 0) dX10_decades_33 rfl rfl ?_
              refine pg_iload_n (pc := 34) (i := 1) (j := 1) (x := v1) dX10_decades_34 rfl rfl ?_
              refine pg_i2l (pc := 35) dX10_decades_35 rfl ?_
              refine pfX10_81 (pc := 36) rfl h0 dX10_decades_36 ?_
              refine pg_aload_n (pc := 39) (i := 0) (j := 0) (x := 0) dX10_decades_39 rfl rfl ?_
              refine gfX10_23 (pc := 40) rfl h0 dX10_decades_40 ?_
              refine pg_aload_n (pc := 43) (i := 0) (j := 0) (x := 0) dX10_decades_43 rfl rfl ?_
              refine gfX10_19 (pc := 44) rfl h0 dX10_decades_44 ?_
              refine pg_callV (pc := 47) (As := [.ref 3]) (st := []) okX9_copyFrom lkX10_208 rfl h1.1 rfl (Nat.le_refl _) (Nat.le_of_ble_eq_true rfl) (e0 c0 c1 c2 c3 c4 c5) dX10_decades_47 (fun r1 M1 w1 => ?_)
              obtain ⟨rfl, w1⟩ := w1
              refine pg_iconst (pc := 50) (v := 0) dX10_decades_50 (by decide) ?_
              refine pg_istore (pc := 51) (i := 4) (ls' := [(4, .int 0), (0, .ref 0), (1, .int v1), (2, .int v2), (3, .int v3)]) dX10_decades_51 (by decide) rfl ?_
              refine pg_iconst (pc := 53) (v := 0) dX10_decades_53 (by decide) ?_
              refine pg_istore (pc := 54) (i := 5) (ls' := [(5, .int 0), (4, .int 0), (0, .ref 0), (1, .int v1), (2, .int v2), (3, .int v3)]) dX10_decades_54 (by decide) rfl ?_
              refine pg_iconst (pc := 56) (v := 0) dX10_decades_56 (by decide) ?_
              refine pg_istore (pc := 57) (i := 6) (ls' := [(6, .int 0), (5, .int 0), (4, .int 0), (0, .ref 0), (1, .int v1), (2, .int v2), (3, .int v3)]) dX10_decades_57 (by decide) rfl ?_
              refine pg_drop (ks := [3, 5, 6, 2, 1, 0]) (ls' := [(0, .ref 0), (2, .int v2), (3, .int v3), (4, .int 0), (5, .int 0), (6, .int 0)]) rfl ?_
              exact k5 c0 c1 c2 c3 c4 c5 M1 w1
            · skip
              refine pg_iconst (pc := 31) (v := (-1)) dX10_decades_31 (by decide) ?_
              exact pg_iret (pc := 32) rfl dX10_decades_32 (k6 c0 c1 c2 c3 c4 c5)
theorem sX10_decades_59 {v2 : Int32} {v3 : Int32} {v4 : Int32} {v5 : Int32} {v6 : Int32} {Q0 : Int32 → pg_M → Prop} {Q1 : pg_M → Prop} {Q2 : Int32 → pg_M → Prop} {Q3 : Int32 → pg_M → Prop} {Q4 : Int32 → pg_M → Prop} {Q5 : Int32 → pg_M → Prop} {Q6 : Int32 → pg_M → Prop}
    (h0 : pg_isX10 Λ)
    (h1 : pg_isX9 Λ 8)
    (e0 : (v2 ≤ v6) → (¬ v3 = 0) → (¬ v3 = 1) → pg_Ev S Λ YX9_gripsOf d [.ref 8, .int (((1 : Int32) <<< ((M.1 8 4) &&& 31)) - 1)] M (fun r M' => ∃ x, r = some (.int x) ∧ Q0 x M'))
    (k0 : (v2 ≤ v6) → (¬ v3 = 0) → (¬ v3 = 1) → ∀ x1 M1, Q0 x1 M1 → P (some (.int x1)) M1)
    (k1 : (v2 ≤ v6) → (¬ v3 = 0) → (v3 = 1) → P (some (.int v5)) M)
    (k2 : (v2 ≤ v6) → (v3 = 0) → P (some (.int v4)) M)
    (e1 : (¬ v2 ≤ v6) → pg_Ev S Λ YX10_handleByDraws d [.ref 0] M (fun r M' => r = none ∧ Q1 M'))
    (e2 : (¬ v2 ≤ v6) → ∀ M2, Q1 M2 → pg_Ev S Λ YX10_draw d [.ref 0, .int 10] M2 (fun r M' => ∃ x, r = some (.int x) ∧ Q2 x M'))
    (b0 : (¬ v2 ≤ v6) → ∀ M2, Q1 M2 → ∀ x3 M3, Q2 x3 M3 → pg_isX5 Λ (M3.2.2 0 8))
    (e3 : (¬ v2 ≤ v6) → ∀ M2, Q1 M2 → ∀ x3 M3, Q2 x3 M3 → ((M3.1 (M3.2.2 0 8) 14) ≤ x3) → pg_Ev S Λ YX9_passHour d [.ref 8, .ref (M2.2.2 0 8), .int 0] M3 (fun r M' => ∃ x, r = some (.int x) ∧ Q3 x M'))
    (e4 : (¬ v2 ≤ v6) → ∀ M2, Q1 M2 → ∀ x3 M3, Q2 x3 M3 → ((M3.1 (M3.2.2 0 8) 14) ≤ x3) → ∀ x4 M4, Q3 x4 M4 → pg_Ev S Λ YX9_lawBits d [.ref 8, .ref (M4.2.2 0 8)] M4 (fun r M' => ∃ x, r = some (.int x) ∧ Q4 x M'))
    (k3 : (¬ v2 ≤ v6) → ∀ M2, Q1 M2 → ∀ x3 M3, Q2 x3 M3 → ((M3.1 (M3.2.2 0 8) 14) ≤ x3) → ∀ x4 M4, Q3 x4 M4 → ∀ x5 M5, Q4 x5 M5 → pg_At S Λ YX10_decades (d + 1) 59 [(0, .ref 0), (2, .int v2), (3, .int v3), (4, .int (v4 + (pg_bc x5))), (5, .int (v5 + x4)), (6, .int (v6 + 1))] [] M5 P)
    (e5 : (¬ v2 ≤ v6) → ∀ M2, Q1 M2 → ∀ x3 M3, Q2 x3 M3 → (¬ (M3.1 (M3.2.2 0 8) 14) ≤ x3) → pg_Ev S Λ YX9_passHour d [.ref 8, .ref (M2.2.2 0 8), .int 3] M3 (fun r M' => ∃ x, r = some (.int x) ∧ Q5 x M'))
    (e6 : (¬ v2 ≤ v6) → ∀ M2, Q1 M2 → ∀ x3 M3, Q2 x3 M3 → (¬ (M3.1 (M3.2.2 0 8) 14) ≤ x3) → ∀ x6 M6, Q5 x6 M6 → pg_Ev S Λ YX9_lawBits d [.ref 8, .ref (M6.2.2 0 8)] M6 (fun r M' => ∃ x, r = some (.int x) ∧ Q6 x M'))
    (k4 : (¬ v2 ≤ v6) → ∀ M2, Q1 M2 → ∀ x3 M3, Q2 x3 M3 → (¬ (M3.1 (M3.2.2 0 8) 14) ≤ x3) → ∀ x6 M6, Q5 x6 M6 → ∀ x7 M7, Q6 x7 M7 → pg_At S Λ YX10_decades (d + 1) 59 [(0, .ref 0), (2, .int v2), (3, .int v3), (4, .int (v4 + (pg_bc x7))), (5, .int (v5 + x6)), (6, .int (v6 + 1))] [] M7 P) :
    pg_At S Λ YX10_decades (d + 1) 59 [(0, .ref 0), (2, .int v2), (3, .int v3), (4, .int v4), (5, .int v5), (6, .int v6)] [] M P := by
  refine pg_iload (pc := 59) (i := 6) (j := 5) (x := v6) dX10_decades_59 rfl ?_
  refine pg_iload_n (pc := 61) (i := 2) (j := 1) (x := v2) dX10_decades_61 rfl rfl ?_
  refine pg_icmp_ge (pc := 62) (tgt := 131) dX10_decades_62 (by decide) (fun c0 => ?_) (fun c0 => ?_)
  · skip
    refine pg_iload_n (pc := 131) (i := 3) (j := 2) (x := v3) dX10_decades_131 rfl rfl ?_
    refine pg_if_ne (pc := 132) (tgt := 138) dX10_decades_132 (by decide) (fun c1 => ?_) (fun c1 => ?_)
    · skip
      refine pg_iload_n (pc := 138) (i := 3) (j := 2) (x := v3) dX10_decades_138 rfl rfl ?_
      refine pg_iconst (pc := 139) (v := 1) dX10_decades_139 (by decide) ?_
      refine pg_icmp_ne (pc := 140) (tgt := 148) dX10_decades_140 (by decide) (fun c2 => ?_) (fun c2 => ?_)
      · skip
        refine pg_aload_n (pc := 148) (i := 0) (j := 0) (x := 0) dX10_decades_148 rfl rfl ?_
        refine gfX10_23 (pc := 149) rfl h0 dX10_decades_149 ?_
        refine pg_iconst (pc := 152) (v := 1) dX10_decades_152 (by decide) ?_
        refine pg_aload_n (pc := 153) (i := 0) (j := 0) (x := 0) dX10_decades_153 rfl rfl ?_
        refine gfX10_23 (pc := 154) rfl h0 dX10_decades_154 ?_
        refine gfX10_149 (pc := 157) rfl h1 dX10_decades_157 ?_
        refine pg_ishl (pc := 160) dX10_decades_160 ?_
        refine pg_iconst (pc := 161) (v := 1) dX10_decades_161 (by decide) ?_
        refine pg_isub (pc := 162) dX10_decades_162 ?_
        refine pg_callV (pc := 163) (As := [.int (((1 : Int32) <<< ((M.1 8 4) &&& 31)) - 1)]) (st := []) okX9_gripsOf lkX10_288 rfl h1.1 rfl (Nat.le_refl _) (Nat.le_of_ble_eq_true rfl) (e0 c0 c1 c2) dX10_decades_163 (fun r1 M1 w1 => ?_)
        obtain ⟨x1, rfl, w1⟩ := w1
        exact pg_iret (pc := 166) rfl dX10_decades_166 (k0 c0 c1 c2 x1 M1 w1)
      · skip
        refine pg_iload (pc := 143) (i := 5) (j := 4) (x := v5) dX10_decades_143 rfl ?_
        refine pg_goto (pc := 145) (tgt := 166) dX10_decades_145 (by decide) ?_
        exact pg_iret (pc := 166) rfl dX10_decades_166 (k1 c0 c1 c2)
    · skip
      refine pg_iload (pc := 135) (i := 4) (j := 3) (x := v4) dX10_decades_135 rfl ?_
      exact pg_iret (pc := 137) rfl dX10_decades_137 (k2 c0 c1)
  · skip
    refine pg_aload_n (pc := 65) (i := 0) (j := 0) (x := 0) dX10_decades_65 rfl rfl ?_
    refine pg_callV (pc := 66) (As := []) (st := []) okX10_handleByDraws lkX10_274 rfl h0 rfl (Nat.le_refl _) (Nat.le_of_ble_eq_true rfl) (e1 c0) dX10_decades_66 (fun r2 M2 w2 => ?_)
    obtain ⟨rfl, w2⟩ := w2
    refine pg_iload (pc := 69) (i := 5) (j := 4) (x := v5) dX10_decades_69 rfl ?_
    refine pg_aload_n (pc := 71) (i := 0) (j := 0) (x := 0) dX10_decades_71 rfl rfl ?_
    refine gfX10_23 (pc := 72) rfl h0 dX10_decades_72 ?_
    refine pg_aload_n (pc := 75) (i := 0) (j := 0) (x := 0) dX10_decades_75 rfl rfl ?_
    refine gfX10_64 (pc := 76) rfl h0 dX10_decades_76 ?_
    refine pg_aload_n (pc := 79) (i := 0) (j := 0) (x := 0) dX10_decades_79 rfl rfl ?_
    refine pg_bipush (pc := 80) (v := 10) dX10_decades_80 (by decide) ?_
    refine pg_callV (pc := 82) (As := [.int 10]) (st := [.ref (M2.2.2 0 8), .ref 8, .int v5]) okX10_draw lkX10_277 rfl h0 rfl (Nat.le_refl _) (Nat.le_of_ble_eq_true rfl) (e2 c0 M2 w2) dX10_decades_82 (fun r3 M3 w3 => ?_)
    obtain ⟨x3, rfl, w3⟩ := w3
    refine pg_aload_n (pc := 85) (i := 0) (j := 0) (x := 0) dX10_decades_85 rfl rfl ?_
    refine gfX10_64 (pc := 86) rfl h0 dX10_decades_86 ?_
    refine gfX10_280 (pc := 89) rfl (b0 c0 M2 w2 x3 M3 w3) dX10_decades_89 ?_
    refine pg_icmp_ge (pc := 92) (tgt := 99) dX10_decades_92 (by decide) (fun c1 => ?_) (fun c1 => ?_)
    · skip
      refine pg_iconst (pc := 99) (v := 0) dX10_decades_99 (by decide) ?_
      refine pg_callV (pc := 100) (As := [.ref (M2.2.2 0 8), .int 0]) (st := [.int v5]) okX9_passHour lkX10_188 rfl h1.1 rfl (Nat.le_refl _) (Nat.le_of_ble_eq_true rfl) (e3 c0 M2 w2 x3 M3 w3 c1) dX10_decades_100 (fun r4 M4 w4 => ?_)
      obtain ⟨x4, rfl, w4⟩ := w4
      refine pg_iadd (pc := 103) dX10_decades_103 ?_
      refine pg_istore (pc := 104) (i := 5) (ls' := [(5, .int (v5 + x4)), (0, .ref 0), (2, .int v2), (3, .int v3), (4, .int v4), (6, .int v6)]) dX10_decades_104 (by decide) rfl ?_
      refine pg_iload (pc := 106) (i := 4) (j := 4) (x := v4) dX10_decades_106 rfl ?_
      refine pg_aload_n (pc := 108) (i := 0) (j := 1) (x := 0) dX10_decades_108 rfl rfl ?_
      refine gfX10_23 (pc := 109) rfl h0 dX10_decades_109 ?_
      refine pg_aload_n (pc := 112) (i := 0) (j := 1) (x := 0) dX10_decades_112 rfl rfl ?_
      refine gfX10_64 (pc := 113) rfl h0 dX10_decades_113 ?_
      refine pg_callV (pc := 116) (As := [.ref (M4.2.2 0 8)]) (st := [.int v4]) okX9_lawBits lkX10_162 rfl h1.1 rfl (Nat.le_refl _) (Nat.le_of_ble_eq_true rfl) (e4 c0 M2 w2 x3 M3 w3 c1 x4 M4 w4) dX10_decades_116 (fun r5 M5 w5 => ?_)
      obtain ⟨x5, rfl, w5⟩ := w5
      refine pg_jbc (pc := 119) (st := [.int v4]) lkX10_283 (Nat.le_of_ble_eq_true rfl) dX10_decades_119 ?_
      refine pg_iadd (pc := 122) dX10_decades_122 ?_
      refine pg_istore (pc := 123) (i := 4) (ls' := [(4, .int (v4 + (pg_bc x5))), (5, .int (v5 + x4)), (0, .ref 0), (2, .int v2), (3, .int v3), (6, .int v6)]) dX10_decades_123 (by decide) rfl ?_
      refine pg_iinc (pc := 125) (i := 6) (j := 5) (x := v6) (v := v6 + 1) (ls' := [(6, .int (v6 + 1)), (4, .int (v4 + (pg_bc x5))), (5, .int (v5 + x4)), (0, .ref 0), (2, .int v2), (3, .int v3)]) dX10_decades_125 rfl rfl (by decide) rfl ?_
      refine pg_goto (pc := 128) (tgt := 59) dX10_decades_128 (by decide) ?_
      refine pg_drop (ks := [3, 4, 5, 1, 2, 0]) (ls' := [(0, .ref 0), (2, .int v2), (3, .int v3), (4, .int (v4 + (pg_bc x5))), (5, .int (v5 + x4)), (6, .int (v6 + 1))]) rfl ?_
      exact k3 c0 M2 w2 x3 M3 w3 c1 x4 M4 w4 x5 M5 w5
    · skip
      refine pg_iconst (pc := 95) (v := 3) dX10_decades_95 (by decide) ?_
      refine pg_goto (pc := 96) (tgt := 100) dX10_decades_96 (by decide) ?_
      refine pg_callV (pc := 100) (As := [.ref (M2.2.2 0 8), .int 3]) (st := [.int v5]) okX9_passHour lkX10_188 rfl h1.1 rfl (Nat.le_refl _) (Nat.le_of_ble_eq_true rfl) (e5 c0 M2 w2 x3 M3 w3 c1) dX10_decades_100 (fun r6 M6 w6 => ?_)
      obtain ⟨x6, rfl, w6⟩ := w6
      refine pg_iadd (pc := 103) dX10_decades_103 ?_
      refine pg_istore (pc := 104) (i := 5) (ls' := [(5, .int (v5 + x6)), (0, .ref 0), (2, .int v2), (3, .int v3), (4, .int v4), (6, .int v6)]) dX10_decades_104 (by decide) rfl ?_
      refine pg_iload (pc := 106) (i := 4) (j := 4) (x := v4) dX10_decades_106 rfl ?_
      refine pg_aload_n (pc := 108) (i := 0) (j := 1) (x := 0) dX10_decades_108 rfl rfl ?_
      refine gfX10_23 (pc := 109) rfl h0 dX10_decades_109 ?_
      refine pg_aload_n (pc := 112) (i := 0) (j := 1) (x := 0) dX10_decades_112 rfl rfl ?_
      refine gfX10_64 (pc := 113) rfl h0 dX10_decades_113 ?_
      refine pg_callV (pc := 116) (As := [.ref (M6.2.2 0 8)]) (st := [.int v4]) okX9_lawBits lkX10_162 rfl h1.1 rfl (Nat.le_refl _) (Nat.le_of_ble_eq_true rfl) (e6 c0 M2 w2 x3 M3 w3 c1 x6 M6 w6) dX10_decades_116 (fun r7 M7 w7 => ?_)
      obtain ⟨x7, rfl, w7⟩ := w7
      refine pg_jbc (pc := 119) (st := [.int v4]) lkX10_283 (Nat.le_of_ble_eq_true rfl) dX10_decades_119 ?_
      refine pg_iadd (pc := 122) dX10_decades_122 ?_
      refine pg_istore (pc := 123) (i := 4) (ls' := [(4, .int (v4 + (pg_bc x7))), (5, .int (v5 + x6)), (0, .ref 0), (2, .int v2), (3, .int v3), (6, .int v6)]) dX10_decades_123 (by decide) rfl ?_
      refine pg_iinc (pc := 125) (i := 6) (j := 5) (x := v6) (v := v6 + 1) (ls' := [(6, .int (v6 + 1)), (4, .int (v4 + (pg_bc x7))), (5, .int (v5 + x6)), (0, .ref 0), (2, .int v2), (3, .int v3)]) dX10_decades_125 rfl rfl (by decide) rfl ?_
      refine pg_goto (pc := 128) (tgt := 59) dX10_decades_128 (by decide) ?_
      refine pg_drop (ks := [3, 4, 5, 1, 2, 0]) (ls' := [(0, .ref 0), (2, .int v2), (3, .int v3), (4, .int (v4 + (pg_bc x7))), (5, .int (v5 + x6)), (6, .int (v6 + 1))]) rfl ?_
      exact k4 c0 M2 w2 x3 M3 w3 c1 x6 M6 w6 x7 M7 w7
theorem oX10_decades {d : Nat} {v1 : Int32} {v2 : Int32} {v3 : Int32} (h : pg_At S Λ YX10_decades d 0 [(0, .ref 0), (1, .int v1), (2, .int v2), (3, .int v3)] [] M P) : pg_Ev S Λ YX10_decades d [.ref 0, .int v1, .int v2, .int v3] M P := pg_Ev.of (by decide) (by first | decide | exact Nat.le_of_ble_eq_true rfl) h
theorem sX10_mark_0 {v1 : Int32} {v2 : Int32} {Q0 : pg_M → Prop} {Q1 : Int32 → pg_M → Prop}
    (h0 : pg_isX10 Λ)
    (h1 : pg_isX6 Λ)
    (k0 : (v1 < 0) → P (some (.int 0)) M)
    (e0 : (¬ v1 < 0) → (v1 < 4) → (v2 = 0) → pg_Ev S Λ YX6_lay d [.ref 19, .int v1, .ref 3, .ref 13] M (fun r M' => r = none ∧ Q0 M'))
    (k1 : (¬ v1 < 0) → (v1 < 4) → (v2 = 0) → ∀ M1, Q0 M1 → P (some (.int 1)) M1)
    (e1 : (¬ v1 < 0) → (v1 < 4) → (¬ v2 = 0) → pg_Ev S Λ YX6_goBack d [.ref 19, .int v1, .ref 3, .ref 13] M (fun r M' => ∃ x, r = some (.int x) ∧ Q1 x M'))
    (k2 : (¬ v1 < 0) → (v1 < 4) → (¬ v2 = 0) → ∀ x2 M2, Q1 x2 M2 → P (some (.int x2)) M2)
    (b0 : (¬ v1 < 0) → (v1 < 4) → (¬ v2 = 0) → ∀ x2 M2, Q1 x2 M2 → narrow .boolean (.int x2) = .int x2)
    (k3 : (¬ v1 < 0) → (¬ v1 < 4) → P (some (.int 0)) M) :
    pg_At S Λ YX10_mark (d + 1) 0 [(0, .ref 0), (1, .int v1), (2, .int v2)] [] M P := by
  refine pg_iload_n (pc := 0) (i := 1) (j := 1) (x := v1) dX10_mark_0 rfl rfl ?_
  refine pg_if_lt (pc := 1) (tgt := 9) dX10_mark_1 (by decide) (fun c0 => ?_) (fun c0 => ?_)
  · skip
    refine pg_iconst (pc := 9) (v := 0) dX10_mark_9 (by decide) ?_
    exact pg_zret (pc := 10) rfl rfl dX10_mark_10 (k0 c0)
  · skip
    refine pg_iload_n (pc := 4) (i := 1) (j := 1) (x := v1) dX10_mark_4 rfl rfl ?_
    refine pg_iconst (pc := 5) (v := 4) dX10_mark_5 (by decide) ?_
    refine pg_icmp_lt (pc := 6) (tgt := 11) dX10_mark_6 (by decide) (fun c1 => ?_) (fun c1 => ?_)
    · skip
      refine pg_iload_n (pc := 11) (i := 2) (j := 2) (x := v2) dX10_mark_11 rfl rfl ?_
      refine pg_if_eq (pc := 12) (tgt := 32) dX10_mark_12 (by decide) (fun c2 => ?_) (fun c2 => ?_)
      · skip
        refine pg_aload_n (pc := 32) (i := 0) (j := 0) (x := 0) dX10_mark_32 rfl rfl ?_
        refine gfX10_36 (pc := 33) rfl h0 dX10_mark_33 ?_
        refine pg_iload_n (pc := 36) (i := 1) (j := 1) (x := v1) dX10_mark_36 rfl rfl ?_
        refine pg_aload_n (pc := 37) (i := 0) (j := 0) (x := 0) dX10_mark_37 rfl rfl ?_
        refine gfX10_19 (pc := 38) rfl h0 dX10_mark_38 ?_
        refine pg_aload_n (pc := 41) (i := 0) (j := 0) (x := 0) dX10_mark_41 rfl rfl ?_
        refine gfX10_29 (pc := 42) rfl h0 dX10_mark_42 ?_
        refine pg_callV (pc := 45) (As := [.int v1, .ref 3, .ref 13]) (st := []) okX6_lay lkX10_295 rfl h1.1 rfl (Nat.le_refl _) (Nat.le_of_ble_eq_true rfl) (e0 c0 c1 c2) dX10_mark_45 (fun r1 M1 w1 => ?_)
        obtain ⟨rfl, w1⟩ := w1
        refine pg_iconst (pc := 48) (v := 1) dX10_mark_48 (by decide) ?_
        exact pg_zret (pc := 49) rfl rfl dX10_mark_49 (k1 c0 c1 c2 M1 w1)
      · skip
        refine pg_aload_n (pc := 15) (i := 0) (j := 0) (x := 0) dX10_mark_15 rfl rfl ?_
        refine gfX10_36 (pc := 16) rfl h0 dX10_mark_16 ?_
        refine pg_iload_n (pc := 19) (i := 1) (j := 1) (x := v1) dX10_mark_19 rfl rfl ?_
        refine pg_aload_n (pc := 20) (i := 0) (j := 0) (x := 0) dX10_mark_20 rfl rfl ?_
        refine gfX10_19 (pc := 21) rfl h0 dX10_mark_21 ?_
        refine pg_aload_n (pc := 24) (i := 0) (j := 0) (x := 0) dX10_mark_24 rfl rfl ?_
        refine gfX10_29 (pc := 25) rfl h0 dX10_mark_25 ?_
        refine pg_callV (pc := 28) (As := [.int v1, .ref 3, .ref 13]) (st := []) okX6_goBack lkX10_291 rfl h1.1 rfl (Nat.le_refl _) (Nat.le_of_ble_eq_true rfl) (e1 c0 c1 c2) dX10_mark_28 (fun r2 M2 w2 => ?_)
        obtain ⟨x2, rfl, w2⟩ := w2
        exact pg_zret (pc := 31) rfl (b0 c0 c1 c2 x2 M2 w2) dX10_mark_31 (k2 c0 c1 c2 x2 M2 w2)
    · skip
      refine pg_iconst (pc := 9) (v := 0) dX10_mark_9 (by decide) ?_
      exact pg_zret (pc := 10) rfl rfl dX10_mark_10 (k3 c0 c1)
theorem oX10_mark {d : Nat} {v1 : Int32} {v2 : Int32} (h : pg_At S Λ YX10_mark d 0 [(0, .ref 0), (1, .int v1), (2, .int v2)] [] M P) : pg_Ev S Λ YX10_mark d [.ref 0, .int v1, .int v2] M P := pg_Ev.of (by decide) (by first | decide | exact Nat.le_of_ble_eq_true rfl) h
theorem sX10_count_0 {v1 : Int32} {Q0 : Int32 → pg_M → Prop} {Q1 : Int32 → pg_M → Prop} {Q2 : Int32 → pg_M → Prop} {Q3 : Int32 → pg_M → Prop}
    (h0 : pg_isX10 Λ)
    (h1 : pg_isX5 Λ (M.2.2 0 8))
    (h2 : pg_isX9 Λ 3)
    (h3 : pg_isX1 Λ (M.2.2 0 10))
    (h4 : pg_isX2 Λ 13)
    (h5 : pg_isX6 Λ)
    (h6 : pg_isX7 Λ)
    (k0 : (v1 = 0) → P (some (.int (M.1 (M.2.2 0 8) 10))) M)
    (k1 : (¬ v1 = 0) → (v1 = 1) → P (some (.int (M.1 3 4))) M)
    (k2 : (¬ v1 = 0) → (¬ v1 = 1) → (v1 = 2) → P (some (.int (M.1 (M.2.2 0 8) 13))) M)
    (e0 : (¬ v1 = 0) → (¬ v1 = 1) → (¬ v1 = 2) → (v1 = 3) → pg_Ev S Λ YX9_roomLeft d [.ref 3, .ref (M.2.2 0 8)] M (fun r M' => ∃ x, r = some (.int x) ∧ Q0 x M'))
    (k3 : (¬ v1 = 0) → (¬ v1 = 1) → (¬ v1 = 2) → (v1 = 3) → ∀ x1 M1, Q0 x1 M1 → P (some (.int x1)) M1)
    (k4 : (¬ v1 = 0) → (¬ v1 = 1) → (¬ v1 = 2) → (¬ v1 = 3) → (v1 = 4) → P (some (.int (M.1 3 5))) M)
    (e1 : (¬ v1 = 0) → (¬ v1 = 1) → (¬ v1 = 2) → (¬ v1 = 3) → (¬ v1 = 4) → (v1 = 5) → pg_Ev S Λ YX5_windAt d [.ref (M.2.2 0 8), .int (M.1 3 5)] M (fun r M' => ∃ x, r = some (.int x) ∧ Q1 x M'))
    (k5 : (¬ v1 = 0) → (¬ v1 = 1) → (¬ v1 = 2) → (¬ v1 = 3) → (¬ v1 = 4) → (v1 = 5) → ∀ x2 M2, Q1 x2 M2 → P (some (.int x2)) M2)
    (e2 : (¬ v1 = 0) → (¬ v1 = 1) → (¬ v1 = 2) → (¬ v1 = 3) → (¬ v1 = 4) → (¬ v1 = 5) → (v1 = 6) → pg_Ev S Λ YX9_worthOfLaws d [.ref 3, .ref (M.2.2 0 8)] M (fun r M' => ∃ x, r = some (.int x) ∧ Q2 x M'))
    (k6 : (¬ v1 = 0) → (¬ v1 = 1) → (¬ v1 = 2) → (¬ v1 = 3) → (¬ v1 = 4) → (¬ v1 = 5) → (v1 = 6) → ∀ x3 M3, Q2 x3 M3 → P (some (.int x3)) M3)
    (e3 : (¬ v1 = 0) → (¬ v1 = 1) → (¬ v1 = 2) → (¬ v1 = 3) → (¬ v1 = 4) → (¬ v1 = 5) → (¬ v1 = 6) → (v1 = 7) → pg_Ev S Λ YX9_turnedBits d [.ref 3, .ref (M.2.2 0 8)] M (fun r M' => ∃ x, r = some (.int x) ∧ Q3 x M'))
    (k7 : (¬ v1 = 0) → (¬ v1 = 1) → (¬ v1 = 2) → (¬ v1 = 3) → (¬ v1 = 4) → (¬ v1 = 5) → (¬ v1 = 6) → (v1 = 7) → ∀ x4 M4, Q3 x4 M4 → P (some (.int x4)) M4)
    (k8 : (¬ v1 = 0) → (¬ v1 = 1) → (¬ v1 = 2) → (¬ v1 = 3) → (¬ v1 = 4) → (¬ v1 = 5) → (¬ v1 = 6) → (¬ v1 = 7) → (v1 = 8) → P (some (.int (M.1 (M.2.2 0 8) 15))) M)
    (k9 : (¬ v1 = 0) → (¬ v1 = 1) → (¬ v1 = 2) → (¬ v1 = 3) → (¬ v1 = 4) → (¬ v1 = 5) → (¬ v1 = 6) → (¬ v1 = 7) → (¬ v1 = 8) → (v1 = 9) → P (some (.int (M.1 (M.2.2 0 10) 3))) M)
    (k10 : (¬ v1 = 0) → (¬ v1 = 1) → (¬ v1 = 2) → (¬ v1 = 3) → (¬ v1 = 4) → (¬ v1 = 5) → (¬ v1 = 6) → (¬ v1 = 7) → (¬ v1 = 8) → (¬ v1 = 9) → (v1 = 10) → P (some (.int (M.1 13 5))) M)
    (k11 : (¬ v1 = 0) → (¬ v1 = 1) → (¬ v1 = 2) → (¬ v1 = 3) → (¬ v1 = 4) → (¬ v1 = 5) → (¬ v1 = 6) → (¬ v1 = 7) → (¬ v1 = 8) → (¬ v1 = 9) → (¬ v1 = 10) → (v1 = 11) → P (some (.int (M.1 19 5))) M)
    (k12 : (¬ v1 = 0) → (¬ v1 = 1) → (¬ v1 = 2) → (¬ v1 = 3) → (¬ v1 = 4) → (¬ v1 = 5) → (¬ v1 = 6) → (¬ v1 = 7) → (¬ v1 = 8) → (¬ v1 = 9) → (¬ v1 = 10) → (¬ v1 = 11) → (v1 = 12) → P (some (.int (M.1 1 1))) M)
    (k13 : (¬ v1 = 0) → (¬ v1 = 1) → (¬ v1 = 2) → (¬ v1 = 3) → (¬ v1 = 4) → (¬ v1 = 5) → (¬ v1 = 6) → (¬ v1 = 7) → (¬ v1 = 8) → (¬ v1 = 9) → (¬ v1 = 10) → (¬ v1 = 11) → (¬ v1 = 12) → P (some (.int (-1))) M) :
    pg_At S Λ YX10_count (d + 1) 0 [(0, .ref 0), (1, .int v1)] [] M P := by
  refine pg_iload_n (pc := 0) (i := 1) (j := 1) (x := v1) dX10_count_0 rfl rfl ?_
  by_cases c0 : v1 = 0
  · refine pg_tableIn (pc := 1) (tgt := 68) dX10_count_1 (by rw [c0]; decide) (by rw [c0]; decide) (by rw [c0]; rfl) (by decide) ?_
    refine pg_aload_n (pc := 68) (i := 0) (j := 0) (x := 0) dX10_count_68 rfl rfl ?_
    refine gfX10_64 (pc := 69) rfl h0 dX10_count_69 ?_
    refine gfX10_299 (pc := 72) rfl h1 dX10_count_72 ?_
    exact pg_iret (pc := 75) rfl dX10_count_75 (k0 c0)
  by_cases c1 : v1 = 1
  · refine pg_tableIn (pc := 1) (tgt := 76) dX10_count_1 (by rw [c1]; decide) (by rw [c1]; decide) (by rw [c1]; rfl) (by decide) ?_
    refine pg_aload_n (pc := 76) (i := 0) (j := 0) (x := 0) dX10_count_76 rfl rfl ?_
    refine gfX10_19 (pc := 77) rfl h0 dX10_count_77 ?_
    refine gfX10_149 (pc := 80) rfl h2 dX10_count_80 ?_
    exact pg_iret (pc := 83) rfl dX10_count_83 (k1 c0 c1)
  by_cases c2 : v1 = 2
  · refine pg_tableIn (pc := 1) (tgt := 84) dX10_count_1 (by rw [c2]; decide) (by rw [c2]; decide) (by rw [c2]; rfl) (by decide) ?_
    refine pg_aload_n (pc := 84) (i := 0) (j := 0) (x := 0) dX10_count_84 rfl rfl ?_
    refine gfX10_64 (pc := 85) rfl h0 dX10_count_85 ?_
    refine gfX10_302 (pc := 88) rfl h1 dX10_count_88 ?_
    exact pg_iret (pc := 91) rfl dX10_count_91 (k2 c0 c1 c2)
  by_cases c3 : v1 = 3
  · refine pg_tableIn (pc := 1) (tgt := 92) dX10_count_1 (by rw [c3]; decide) (by rw [c3]; decide) (by rw [c3]; rfl) (by decide) ?_
    refine pg_aload_n (pc := 92) (i := 0) (j := 0) (x := 0) dX10_count_92 rfl rfl ?_
    refine gfX10_19 (pc := 93) rfl h0 dX10_count_93 ?_
    refine pg_aload_n (pc := 96) (i := 0) (j := 0) (x := 0) dX10_count_96 rfl rfl ?_
    refine gfX10_64 (pc := 97) rfl h0 dX10_count_97 ?_
    refine pg_callV (pc := 100) (As := [.ref (M.2.2 0 8)]) (st := []) okX9_roomLeft lkX10_176 rfl h2.1 rfl (Nat.le_refl _) (Nat.le_of_ble_eq_true rfl) (e0 c0 c1 c2 c3) dX10_count_100 (fun r1 M1 w1 => ?_)
    obtain ⟨x1, rfl, w1⟩ := w1
    exact pg_iret (pc := 103) rfl dX10_count_103 (k3 c0 c1 c2 c3 x1 M1 w1)
  by_cases c4 : v1 = 4
  · refine pg_tableIn (pc := 1) (tgt := 104) dX10_count_1 (by rw [c4]; decide) (by rw [c4]; decide) (by rw [c4]; rfl) (by decide) ?_
    refine pg_aload_n (pc := 104) (i := 0) (j := 0) (x := 0) dX10_count_104 rfl rfl ?_
    refine gfX10_19 (pc := 105) rfl h0 dX10_count_105 ?_
    refine gfX10_138 (pc := 108) rfl h2 dX10_count_108 ?_
    exact pg_iret (pc := 111) rfl dX10_count_111 (k4 c0 c1 c2 c3 c4)
  by_cases c5 : v1 = 5
  · refine pg_tableIn (pc := 1) (tgt := 112) dX10_count_1 (by rw [c5]; decide) (by rw [c5]; decide) (by rw [c5]; rfl) (by decide) ?_
    refine pg_aload_n (pc := 112) (i := 0) (j := 0) (x := 0) dX10_count_112 rfl rfl ?_
    refine gfX10_64 (pc := 113) rfl h0 dX10_count_113 ?_
    refine pg_aload_n (pc := 116) (i := 0) (j := 0) (x := 0) dX10_count_116 rfl rfl ?_
    refine gfX10_19 (pc := 117) rfl h0 dX10_count_117 ?_
    refine gfX10_138 (pc := 120) rfl h2 dX10_count_120 ?_
    refine pg_callV (pc := 123) (As := [.int (M.1 3 5)]) (st := []) okX5_windAt lkX10_141 rfl h1.1 rfl (Nat.le_refl _) (Nat.le_of_ble_eq_true rfl) (e1 c0 c1 c2 c3 c4 c5) dX10_count_123 (fun r2 M2 w2 => ?_)
    obtain ⟨x2, rfl, w2⟩ := w2
    exact pg_iret (pc := 126) rfl dX10_count_126 (k5 c0 c1 c2 c3 c4 c5 x2 M2 w2)
  by_cases c6 : v1 = 6
  · refine pg_tableIn (pc := 1) (tgt := 127) dX10_count_1 (by rw [c6]; decide) (by rw [c6]; decide) (by rw [c6]; rfl) (by decide) ?_
    refine pg_aload_n (pc := 127) (i := 0) (j := 0) (x := 0) dX10_count_127 rfl rfl ?_
    refine gfX10_19 (pc := 128) rfl h0 dX10_count_128 ?_
    refine pg_aload_n (pc := 131) (i := 0) (j := 0) (x := 0) dX10_count_131 rfl rfl ?_
    refine gfX10_64 (pc := 132) rfl h0 dX10_count_132 ?_
    refine pg_callV (pc := 135) (As := [.ref (M.2.2 0 8)]) (st := []) okX9_worthOfLaws lkX10_205 rfl h2.1 rfl (Nat.le_refl _) (Nat.le_of_ble_eq_true rfl) (e2 c0 c1 c2 c3 c4 c5 c6) dX10_count_135 (fun r3 M3 w3 => ?_)
    obtain ⟨x3, rfl, w3⟩ := w3
    exact pg_iret (pc := 138) rfl dX10_count_138 (k6 c0 c1 c2 c3 c4 c5 c6 x3 M3 w3)
  by_cases c7 : v1 = 7
  · refine pg_tableIn (pc := 1) (tgt := 139) dX10_count_1 (by rw [c7]; decide) (by rw [c7]; decide) (by rw [c7]; rfl) (by decide) ?_
    refine pg_aload_n (pc := 139) (i := 0) (j := 0) (x := 0) dX10_count_139 rfl rfl ?_
    refine gfX10_19 (pc := 140) rfl h0 dX10_count_140 ?_
    refine pg_aload_n (pc := 143) (i := 0) (j := 0) (x := 0) dX10_count_143 rfl rfl ?_
    refine gfX10_64 (pc := 144) rfl h0 dX10_count_144 ?_
    refine pg_callV (pc := 147) (As := [.ref (M.2.2 0 8)]) (st := []) okX9_turnedBits lkX10_305 rfl h2.1 rfl (Nat.le_refl _) (Nat.le_of_ble_eq_true rfl) (e3 c0 c1 c2 c3 c4 c5 c6 c7) dX10_count_147 (fun r4 M4 w4 => ?_)
    obtain ⟨x4, rfl, w4⟩ := w4
    exact pg_iret (pc := 150) rfl dX10_count_150 (k7 c0 c1 c2 c3 c4 c5 c6 c7 x4 M4 w4)
  by_cases c8 : v1 = 8
  · refine pg_tableIn (pc := 1) (tgt := 151) dX10_count_1 (by rw [c8]; decide) (by rw [c8]; decide) (by rw [c8]; rfl) (by decide) ?_
    refine pg_aload_n (pc := 151) (i := 0) (j := 0) (x := 0) dX10_count_151 rfl rfl ?_
    refine gfX10_64 (pc := 152) rfl h0 dX10_count_152 ?_
    refine gfX10_308 (pc := 155) rfl h1 dX10_count_155 ?_
    exact pg_iret (pc := 158) rfl dX10_count_158 (k8 c0 c1 c2 c3 c4 c5 c6 c7 c8)
  by_cases c9 : v1 = 9
  · refine pg_tableIn (pc := 1) (tgt := 159) dX10_count_1 (by rw [c9]; decide) (by rw [c9]; decide) (by rw [c9]; rfl) (by decide) ?_
    refine pg_aload_n (pc := 159) (i := 0) (j := 0) (x := 0) dX10_count_159 rfl rfl ?_
    refine gfX10_74 (pc := 160) rfl h0 dX10_count_160 ?_
    refine gfX10_311 (pc := 163) rfl h3 dX10_count_163 ?_
    exact pg_iret (pc := 166) rfl dX10_count_166 (k9 c0 c1 c2 c3 c4 c5 c6 c7 c8 c9)
  by_cases c10 : v1 = 10
  · refine pg_tableIn (pc := 1) (tgt := 167) dX10_count_1 (by rw [c10]; decide) (by rw [c10]; decide) (by rw [c10]; rfl) (by decide) ?_
    refine pg_aload_n (pc := 167) (i := 0) (j := 0) (x := 0) dX10_count_167 rfl rfl ?_
    refine gfX10_29 (pc := 168) rfl h0 dX10_count_168 ?_
    refine gfX10_314 (pc := 171) rfl h4 dX10_count_171 ?_
    exact pg_iret (pc := 174) rfl dX10_count_174 (k10 c0 c1 c2 c3 c4 c5 c6 c7 c8 c9 c10)
  by_cases c11 : v1 = 11
  · refine pg_tableIn (pc := 1) (tgt := 175) dX10_count_1 (by rw [c11]; decide) (by rw [c11]; decide) (by rw [c11]; rfl) (by decide) ?_
    refine pg_aload_n (pc := 175) (i := 0) (j := 0) (x := 0) dX10_count_175 rfl rfl ?_
    refine gfX10_36 (pc := 176) rfl h0 dX10_count_176 ?_
    refine gfX10_315 (pc := 179) rfl h5 dX10_count_179 ?_
    exact pg_iret (pc := 182) rfl dX10_count_182 (k11 c0 c1 c2 c3 c4 c5 c6 c7 c8 c9 c10 c11)
  by_cases c12 : v1 = 12
  · refine pg_tableIn (pc := 1) (tgt := 183) dX10_count_1 (by rw [c12]; decide) (by rw [c12]; decide) (by rw [c12]; rfl) (by decide) ?_
    refine pg_aload_n (pc := 183) (i := 0) (j := 0) (x := 0) dX10_count_183 rfl rfl ?_
    refine gfX10_10 (pc := 184) rfl h0 dX10_count_184 ?_
    refine gfX10_89 (pc := 187) rfl h6 dX10_count_187 ?_
    exact pg_iret (pc := 190) rfl dX10_count_190 (k12 c0 c1 c2 c3 c4 c5 c6 c7 c8 c9 c10 c11 c12)
  have g0 : v1.toInt ≠ 0 := pg_ne c0 (by decide)
  have g1 : v1.toInt ≠ 1 := pg_ne c1 (by decide)
  have g2 : v1.toInt ≠ 2 := pg_ne c2 (by decide)
  have g3 : v1.toInt ≠ 3 := pg_ne c3 (by decide)
  have g4 : v1.toInt ≠ 4 := pg_ne c4 (by decide)
  have g5 : v1.toInt ≠ 5 := pg_ne c5 (by decide)
  have g6 : v1.toInt ≠ 6 := pg_ne c6 (by decide)
  have g7 : v1.toInt ≠ 7 := pg_ne c7 (by decide)
  have g8 : v1.toInt ≠ 8 := pg_ne c8 (by decide)
  have g9 : v1.toInt ≠ 9 := pg_ne c9 (by decide)
  have g10 : v1.toInt ≠ 10 := pg_ne c10 (by decide)
  have g11 : v1.toInt ≠ 11 := pg_ne c11 (by decide)
  have g12 : v1.toInt ≠ 12 := pg_ne c12 (by decide)
  refine pg_tableOut (pc := 1) (tgt := 191) dX10_count_1 (by omega) (by decide) ?_
  refine pg_iconst (pc := 191) (v := (-1)) dX10_count_191 (by decide) ?_
  exact pg_iret (pc := 192) rfl dX10_count_192 (k13 c0 c1 c2 c3 c4 c5 c6 c7 c8 c9 c10 c11 c12)
theorem oX10_count {d : Nat} {v1 : Int32} (h : pg_At S Λ YX10_count d 0 [(0, .ref 0), (1, .int v1)] [] M P) : pg_Ev S Λ YX10_count d [.ref 0, .int v1] M P := pg_Ev.of (by decide) (by first | decide | exact Nat.le_of_ble_eq_true rfl) h
theorem sX10_worthBehind_0 {v1 : Int32} {v2 : Int32} {Q0 : pg_M → Prop}
    (h0 : pg_isX10 Λ)
    (h1 : pg_isX9 Λ 8)
    (e0 : pg_Ev S Λ YX9_copyFrom d [.ref 8, .ref 3] M (fun r M' => r = none ∧ Q0 M'))
    (k0 : ∀ M1, Q0 M1 → (v2 = (-1)) → pg_At S Λ YX10_worthBehind (d + 1) 29 [(0, .ref 0), (1, .int v1), (3, .int 0)] [] M1 P)
    (b0 : ∀ M1, Q0 M1 → (¬ v2 = (-1)) → vp_in v2 8)
    (k1 : ∀ M1, Q0 M1 → (¬ v2 = (-1)) → pg_At S Λ YX10_worthBehind (d + 1) 29 [(0, .ref 0), (1, .int v1), (3, .int 0)] [] (pg_si M1 12 v2.toNatClampNeg 9) P) :
    pg_At S Λ YX10_worthBehind (d + 1) 0 [(0, .ref 0), (1, .int v1), (2, .int v2)] [] M P := by
  refine pg_aload_n (pc := 0) (i := 0) (j := 0) (x := 0) dX10_worthBehind_0 rfl rfl ?_
  refine gfX10_23 (pc := 1) rfl h0 dX10_worthBehind_1 ?_
  refine pg_aload_n (pc := 4) (i := 0) (j := 0) (x := 0) dX10_worthBehind_4 rfl rfl ?_
  refine gfX10_19 (pc := 5) rfl h0 dX10_worthBehind_5 ?_
  refine pg_callV (pc := 8) (As := [.ref 3]) (st := []) okX9_copyFrom lkX10_208 rfl h1.1 rfl (Nat.le_refl _) (Nat.le_of_ble_eq_true rfl) e0 dX10_worthBehind_8 (fun r1 M1 w1 => ?_)
  obtain ⟨rfl, w1⟩ := w1
  refine pg_iload_n (pc := 11) (i := 2) (j := 2) (x := v2) dX10_worthBehind_11 rfl rfl ?_
  refine pg_iconst (pc := 12) (v := (-1)) dX10_worthBehind_12 (by decide) ?_
  refine pg_icmp_eq (pc := 13) (tgt := 27) dX10_worthBehind_13 (by decide) (fun c0 => ?_) (fun c0 => ?_)
  · skip
    refine pg_iconst (pc := 27) (v := 0) dX10_worthBehind_27 (by decide) ?_
    refine pg_istore_n (pc := 28) (i := 3) (ls' := [(3, .int 0), (0, .ref 0), (1, .int v1), (2, .int v2)]) dX10_worthBehind_28 rfl (by decide) rfl ?_
    refine pg_drop (ks := [1, 2, 0]) (ls' := [(0, .ref 0), (1, .int v1), (3, .int 0)]) rfl ?_
    exact k0 M1 w1 c0
  · skip
    refine pg_aload_n (pc := 16) (i := 0) (j := 0) (x := 0) dX10_worthBehind_16 rfl rfl ?_
    refine gfX10_23 (pc := 17) rfl h0 dX10_worthBehind_17 ?_
    refine gfX10_152 (pc := 20) rfl h1 dX10_worthBehind_20 ?_
    refine pg_iload_n (pc := 23) (i := 2) (j := 2) (x := v2) dX10_worthBehind_23 rfl rfl ?_
    refine pg_bipush (pc := 24) (v := 9) dX10_worthBehind_24 (by decide) ?_
    refine pg_iast (pc := 26) h1.2.2.2.2 (b0 M1 w1 c0) dX10_worthBehind_26 ?_
    refine pg_iconst (pc := 27) (v := 0) dX10_worthBehind_27 (by decide) ?_
    refine pg_istore_n (pc := 28) (i := 3) (ls' := [(3, .int 0), (0, .ref 0), (1, .int v1), (2, .int v2)]) dX10_worthBehind_28 rfl (by decide) rfl ?_
    refine pg_drop (ks := [1, 2, 0]) (ls' := [(0, .ref 0), (1, .int v1), (3, .int 0)]) rfl ?_
    exact k1 M1 w1 c0
theorem sX10_worthBehind_29 {v1 : Int32} {v3 : Int32} {Q0 : Int32 → pg_M → Prop} {Q1 : Int32 → pg_M → Prop}
    (h0 : pg_isX10 Λ)
    (h1 : pg_isX9 Λ 8)
    (e0 : (v1 ≤ v3) → pg_Ev S Λ YX9_worthOfLaws d [.ref 8, .ref (M.2.2 0 8)] M (fun r M' => ∃ x, r = some (.int x) ∧ Q0 x M'))
    (k0 : (v1 ≤ v3) → ∀ x1 M1, Q0 x1 M1 → P (some (.int x1)) M1)
    (e1 : (¬ v1 ≤ v3) → pg_Ev S Λ YX9_passHour d [.ref 8, .ref (M.2.2 0 8), .int 0] M (fun r M' => ∃ x, r = some (.int x) ∧ Q1 x M'))
    (k1 : (¬ v1 ≤ v3) → ∀ x2 M2, Q1 x2 M2 → pg_At S Λ YX10_worthBehind (d + 1) 29 [(0, .ref 0), (1, .int v1), (3, .int (v3 + 1))] [] M2 P) :
    pg_At S Λ YX10_worthBehind (d + 1) 29 [(0, .ref 0), (1, .int v1), (3, .int v3)] [] M P := by
  refine pg_iload_n (pc := 29) (i := 3) (j := 2) (x := v3) dX10_worthBehind_29 rfl rfl ?_
  refine pg_iload_n (pc := 30) (i := 1) (j := 1) (x := v1) dX10_worthBehind_30 rfl rfl ?_
  refine pg_icmp_ge (pc := 31) (tgt := 53) dX10_worthBehind_31 (by decide) (fun c0 => ?_) (fun c0 => ?_)
  · skip
    refine pg_aload_n (pc := 53) (i := 0) (j := 0) (x := 0) dX10_worthBehind_53 rfl rfl ?_
    refine gfX10_23 (pc := 54) rfl h0 dX10_worthBehind_54 ?_
    refine pg_aload_n (pc := 57) (i := 0) (j := 0) (x := 0) dX10_worthBehind_57 rfl rfl ?_
    refine gfX10_64 (pc := 58) rfl h0 dX10_worthBehind_58 ?_
    refine pg_callV (pc := 61) (As := [.ref (M.2.2 0 8)]) (st := []) okX9_worthOfLaws lkX10_205 rfl h1.1 rfl (Nat.le_refl _) (Nat.le_of_ble_eq_true rfl) (e0 c0) dX10_worthBehind_61 (fun r1 M1 w1 => ?_)
    obtain ⟨x1, rfl, w1⟩ := w1
    exact pg_iret (pc := 64) rfl dX10_worthBehind_64 (k0 c0 x1 M1 w1)
  · skip
    refine pg_aload_n (pc := 34) (i := 0) (j := 0) (x := 0) dX10_worthBehind_34 rfl rfl ?_
    refine gfX10_23 (pc := 35) rfl h0 dX10_worthBehind_35 ?_
    refine pg_aload_n (pc := 38) (i := 0) (j := 0) (x := 0) dX10_worthBehind_38 rfl rfl ?_
    refine gfX10_64 (pc := 39) rfl h0 dX10_worthBehind_39 ?_
    refine pg_iconst (pc := 42) (v := 0) dX10_worthBehind_42 (by decide) ?_
    refine pg_callV (pc := 43) (As := [.ref (M.2.2 0 8), .int 0]) (st := []) okX9_passHour lkX10_188 rfl h1.1 rfl (Nat.le_refl _) (Nat.le_of_ble_eq_true rfl) (e1 c0) dX10_worthBehind_43 (fun r2 M2 w2 => ?_)
    obtain ⟨x2, rfl, w2⟩ := w2
    refine pg_pop (pc := 46) dX10_worthBehind_46 rfl ?_
    refine pg_iinc (pc := 47) (i := 3) (j := 2) (x := v3) (v := v3 + 1) (ls' := [(3, .int (v3 + 1)), (0, .ref 0), (1, .int v1)]) dX10_worthBehind_47 rfl rfl (by decide) rfl ?_
    refine pg_goto (pc := 50) (tgt := 29) dX10_worthBehind_50 (by decide) ?_
    refine pg_drop (ks := [1, 2, 0]) (ls' := [(0, .ref 0), (1, .int v1), (3, .int (v3 + 1))]) rfl ?_
    exact k1 c0 x2 M2 w2
theorem oX10_worthBehind {d : Nat} {v1 : Int32} {v2 : Int32} (h : pg_At S Λ YX10_worthBehind d 0 [(0, .ref 0), (1, .int v1), (2, .int v2)] [] M P) : pg_Ev S Λ YX10_worthBehind d [.ref 0, .int v1, .int v2] M P := pg_Ev.of (by decide) (by first | decide | exact Nat.le_of_ble_eq_true rfl) h
theorem sX10_handleByDraws_0  {Q0 : Int32 → pg_M → Prop} {Q1 : Int32 → pg_M → Prop} {Q2 : Int32 → pg_M → Prop} {Q3 : Int32 → pg_M → Prop} {Q4 : Int32 → pg_M → Prop} {Q5 : Int32 → pg_M → Prop}
    (h0 : pg_isX10 Λ)
    (h1 : pg_isX5 Λ (M.2.2 0 8))
    (h2 : pg_isX9 Λ 8)
    (e0 : (¬ (M.1 (M.2.2 0 8) 10) = 0) → pg_Ev S Λ YX10_draw d [.ref 0, .int (M.1 (M.2.2 0 8) 10)] M (fun r M' => ∃ x, r = some (.int x) ∧ Q0 x M'))
    (b0 : (¬ (M.1 (M.2.2 0 8) 10) = 0) → ∀ x1 M1, Q0 x1 M1 → vp_in x1 6)
    (e1 : (¬ (M.1 (M.2.2 0 8) 10) = 0) → ∀ x1 M1, Q0 x1 M1 → (¬ (M1.1 11 x1.toNatClampNeg) = 0) → pg_Ev S Λ YX10_draw d [.ref 0, .int 4] M1 (fun r M' => ∃ x, r = some (.int x) ∧ Q1 x M'))
    (k0 : (¬ (M.1 (M.2.2 0 8) 10) = 0) → ∀ x1 M1, Q0 x1 M1 → (¬ (M1.1 11 x1.toNatClampNeg) = 0) → ∀ x2 M2, Q1 x2 M2 → (¬ x2 = 0) → P none M2)
    (e2 : (¬ (M.1 (M.2.2 0 8) 10) = 0) → ∀ x1 M1, Q0 x1 M1 → (¬ (M1.1 11 x1.toNatClampNeg) = 0) → ∀ x2 M2, Q1 x2 M2 → (x2 = 0) → pg_Ev S Λ YX9_takeIn d [.ref 8, .ref (M2.2.2 0 8), .int x1] M2 (fun r M' => ∃ x, r = some (.int x) ∧ Q2 x M'))
    (k1 : (¬ (M.1 (M.2.2 0 8) 10) = 0) → ∀ x1 M1, Q0 x1 M1 → (¬ (M1.1 11 x1.toNatClampNeg) = 0) → ∀ x2 M2, Q1 x2 M2 → (x2 = 0) → ∀ x3 M3, Q2 x3 M3 → P none M3)
    (b1 : (¬ (M.1 (M.2.2 0 8) 10) = 0) → ∀ x1 M1, Q0 x1 M1 → ((M1.1 11 x1.toNatClampNeg) = 0) → pg_isX5 Λ (M1.2.2 0 8))
    (e3 : (¬ (M.1 (M.2.2 0 8) 10) = 0) → ∀ x1 M1, Q0 x1 M1 → ((M1.1 11 x1.toNatClampNeg) = 0) → pg_Ev S Λ YX5_pegsFor d [.ref (M1.2.2 0 8), .int x1] M1 (fun r M' => ∃ x, r = some (.int x) ∧ Q3 x M'))
    (e4 : (¬ (M.1 (M.2.2 0 8) 10) = 0) → ∀ x1 M1, Q0 x1 M1 → ((M1.1 11 x1.toNatClampNeg) = 0) → ∀ x4 M4, Q3 x4 M4 → pg_Ev S Λ YX9_firstFree d [.ref 8, .int x4] M4 (fun r M' => ∃ x, r = some (.int x) ∧ Q4 x M'))
    (e5 : (¬ (M.1 (M.2.2 0 8) 10) = 0) → ∀ x1 M1, Q0 x1 M1 → ((M1.1 11 x1.toNatClampNeg) = 0) → ∀ x4 M4, Q3 x4 M4 → ∀ x5 M5, Q4 x5 M5 → pg_Ev S Λ YX9_hangUp d [.ref 8, .ref (M1.2.2 0 8), .int x1, .int x5] M5 (fun r M' => ∃ x, r = some (.int x) ∧ Q5 x M'))
    (k2 : (¬ (M.1 (M.2.2 0 8) 10) = 0) → ∀ x1 M1, Q0 x1 M1 → ((M1.1 11 x1.toNatClampNeg) = 0) → ∀ x4 M4, Q3 x4 M4 → ∀ x5 M5, Q4 x5 M5 → ∀ x6 M6, Q5 x6 M6 → P none M6)
    (k3 : ((M.1 (M.2.2 0 8) 10) = 0) → P none M) :
    pg_At S Λ YX10_handleByDraws (d + 1) 0 [(0, .ref 0)] [] M P := by
  refine pg_aload_n (pc := 0) (i := 0) (j := 0) (x := 0) dX10_handleByDraws_0 rfl rfl ?_
  refine gfX10_64 (pc := 1) rfl h0 dX10_handleByDraws_1 ?_
  refine gfX10_299 (pc := 4) rfl h1 dX10_handleByDraws_4 ?_
  refine pg_if_ne (pc := 7) (tgt := 11) dX10_handleByDraws_7 (by decide) (fun c0 => ?_) (fun c0 => ?_)
  · skip
    refine pg_aload_n (pc := 11) (i := 0) (j := 0) (x := 0) dX10_handleByDraws_11 rfl rfl ?_
    refine pg_aload_n (pc := 12) (i := 0) (j := 0) (x := 0) dX10_handleByDraws_12 rfl rfl ?_
    refine gfX10_64 (pc := 13) rfl h0 dX10_handleByDraws_13 ?_
    refine gfX10_299 (pc := 16) rfl h1 dX10_handleByDraws_16 ?_
    refine pg_callV (pc := 19) (As := [.int (M.1 (M.2.2 0 8) 10)]) (st := []) okX10_draw lkX10_277 rfl h0 rfl (Nat.le_refl _) (Nat.le_of_ble_eq_true rfl) (e0 c0) dX10_handleByDraws_19 (fun r1 M1 w1 => ?_)
    obtain ⟨x1, rfl, w1⟩ := w1
    refine pg_istore_n (pc := 22) (i := 1) (ls' := [(1, .int x1), (0, .ref 0)]) dX10_handleByDraws_22 rfl (by decide) rfl ?_
    refine pg_aload_n (pc := 23) (i := 0) (j := 1) (x := 0) dX10_handleByDraws_23 rfl rfl ?_
    refine gfX10_23 (pc := 24) rfl h0 dX10_handleByDraws_24 ?_
    refine gfX10_124 (pc := 27) rfl h2 dX10_handleByDraws_27 ?_
    refine pg_iload_n (pc := 30) (i := 1) (j := 0) (x := x1) dX10_handleByDraws_30 rfl rfl ?_
    refine pg_iald (pc := 31) h2.2.2.2.1 (b0 c0 x1 M1 w1) dX10_handleByDraws_31 ?_
    refine pg_if_ne (pc := 32) (tgt := 66) dX10_handleByDraws_32 (by decide) (fun c1 => ?_) (fun c1 => ?_)
    · skip
      refine pg_aload_n (pc := 66) (i := 0) (j := 1) (x := 0) dX10_handleByDraws_66 rfl rfl ?_
      refine pg_iconst (pc := 67) (v := 4) dX10_handleByDraws_67 (by decide) ?_
      refine pg_callV (pc := 68) (As := [.int 4]) (st := []) okX10_draw lkX10_277 rfl h0 rfl (Nat.le_refl _) (Nat.le_of_ble_eq_true rfl) (e1 c0 x1 M1 w1 c1) dX10_handleByDraws_68 (fun r2 M2 w2 => ?_)
      obtain ⟨x2, rfl, w2⟩ := w2
      refine pg_if_ne (pc := 71) (tgt := 87) dX10_handleByDraws_71 (by decide) (fun c2 => ?_) (fun c2 => ?_)
      · skip
        exact pg_vret (pc := 87) rfl dX10_handleByDraws_87 (k0 c0 x1 M1 w1 c1 x2 M2 w2 c2)
      · skip
        refine pg_aload_n (pc := 74) (i := 0) (j := 1) (x := 0) dX10_handleByDraws_74 rfl rfl ?_
        refine gfX10_23 (pc := 75) rfl h0 dX10_handleByDraws_75 ?_
        refine pg_aload_n (pc := 78) (i := 0) (j := 1) (x := 0) dX10_handleByDraws_78 rfl rfl ?_
        refine gfX10_64 (pc := 79) rfl h0 dX10_handleByDraws_79 ?_
        refine pg_iload_n (pc := 82) (i := 1) (j := 0) (x := x1) dX10_handleByDraws_82 rfl rfl ?_
        refine pg_callV (pc := 83) (As := [.ref (M2.2.2 0 8), .int x1]) (st := []) okX9_takeIn lkX10_179 rfl h2.1 rfl (Nat.le_refl _) (Nat.le_of_ble_eq_true rfl) (e2 c0 x1 M1 w1 c1 x2 M2 w2 c2) dX10_handleByDraws_83 (fun r3 M3 w3 => ?_)
        obtain ⟨x3, rfl, w3⟩ := w3
        refine pg_pop (pc := 86) dX10_handleByDraws_86 rfl ?_
        exact pg_vret (pc := 87) rfl dX10_handleByDraws_87 (k1 c0 x1 M1 w1 c1 x2 M2 w2 c2 x3 M3 w3)
    · skip
      refine pg_aload_n (pc := 35) (i := 0) (j := 1) (x := 0) dX10_handleByDraws_35 rfl rfl ?_
      refine gfX10_23 (pc := 36) rfl h0 dX10_handleByDraws_36 ?_
      refine pg_aload_n (pc := 39) (i := 0) (j := 1) (x := 0) dX10_handleByDraws_39 rfl rfl ?_
      refine gfX10_64 (pc := 40) rfl h0 dX10_handleByDraws_40 ?_
      refine pg_iload_n (pc := 43) (i := 1) (j := 0) (x := x1) dX10_handleByDraws_43 rfl rfl ?_
      refine pg_aload_n (pc := 44) (i := 0) (j := 1) (x := 0) dX10_handleByDraws_44 rfl rfl ?_
      refine gfX10_23 (pc := 45) rfl h0 dX10_handleByDraws_45 ?_
      refine pg_aload_n (pc := 48) (i := 0) (j := 1) (x := 0) dX10_handleByDraws_48 rfl rfl ?_
      refine gfX10_64 (pc := 49) rfl h0 dX10_handleByDraws_49 ?_
      refine pg_iload_n (pc := 52) (i := 1) (j := 0) (x := x1) dX10_handleByDraws_52 rfl rfl ?_
      refine pg_callV (pc := 53) (As := [.int x1]) (st := [.ref 8, .int x1, .ref (M1.2.2 0 8), .ref 8]) okX5_pegsFor lkX10_316 rfl (b1 c0 x1 M1 w1 c1).1 rfl (Nat.le_refl _) (Nat.le_of_ble_eq_true rfl) (e3 c0 x1 M1 w1 c1) dX10_handleByDraws_53 (fun r4 M4 w4 => ?_)
      obtain ⟨x4, rfl, w4⟩ := w4
      refine pg_callV (pc := 56) (As := [.int x4]) (st := [.int x1, .ref (M1.2.2 0 8), .ref 8]) okX9_firstFree lkX10_319 rfl h2.1 rfl (Nat.le_refl _) (Nat.le_of_ble_eq_true rfl) (e4 c0 x1 M1 w1 c1 x4 M4 w4) dX10_handleByDraws_56 (fun r5 M5 w5 => ?_)
      obtain ⟨x5, rfl, w5⟩ := w5
      refine pg_callV (pc := 59) (As := [.ref (M1.2.2 0 8), .int x1, .int x5]) (st := []) okX9_hangUp lkX10_169 rfl h2.1 rfl (Nat.le_refl _) (Nat.le_of_ble_eq_true rfl) (e5 c0 x1 M1 w1 c1 x4 M4 w4 x5 M5 w5) dX10_handleByDraws_59 (fun r6 M6 w6 => ?_)
      obtain ⟨x6, rfl, w6⟩ := w6
      refine pg_pop (pc := 62) dX10_handleByDraws_62 rfl ?_
      refine pg_goto (pc := 63) (tgt := 87) dX10_handleByDraws_63 (by decide) ?_
      exact pg_vret (pc := 87) rfl dX10_handleByDraws_87 (k2 c0 x1 M1 w1 c1 x4 M4 w4 x5 M5 w5 x6 M6 w6)
  · skip
    exact pg_vret (pc := 10) rfl dX10_handleByDraws_10 (k3 c0)
theorem oX10_handleByDraws {d : Nat}  (h : pg_At S Λ YX10_handleByDraws d 0 [(0, .ref 0)] [] M P) : pg_Ev S Λ YX10_handleByDraws d [.ref 0] M P := pg_Ev.of (by decide) (by first | decide | exact Nat.le_of_ble_eq_true rfl) h
theorem sX10_draw_0 {v1 : Int32} 
    (h0 : pg_isX10 Λ)
    (b0 : ∀ N1, N1 = pg_sj M 0 12 ((((M.2.1 0 12) * 1103515245) + 12345) - (((M.2.1 0 12) * 1103515245) + 12345) / 2147483648 * 2147483648) → (1 ≤ v1) → ¬ v1.toInt64 = 0)
    (k0 : ∀ N1, N1 = pg_sj M 0 12 ((((M.2.1 0 12) * 1103515245) + 12345) - (((M.2.1 0 12) * 1103515245) + 12345) / 2147483648 * 2147483648) → (1 ≤ v1) → P (some (.int ((((N1.2.1 0 12) / 65536) - ((N1.2.1 0 12) / 65536) / v1.toInt64 * v1.toInt64).toInt32))) N1)
    (k1 : ∀ N1, N1 = pg_sj M 0 12 ((((M.2.1 0 12) * 1103515245) + 12345) - (((M.2.1 0 12) * 1103515245) + 12345) / 2147483648 * 2147483648) → (¬ 1 ≤ v1) → P (some (.int 0)) N1) :
    pg_At S Λ YX10_draw d 0 [(0, .ref 0), (1, .int v1)] [] M P := by
  refine pg_aload_n (pc := 0) (i := 0) (j := 0) (x := 0) dX10_draw_0 rfl rfl ?_
  refine pg_aload_n (pc := 1) (i := 0) (j := 0) (x := 0) dX10_draw_1 rfl rfl ?_
  refine gfX10_81 (pc := 2) rfl h0 dX10_draw_2 ?_
  refine pg_ldc2 (pc := 5) (v := 1103515245) kX10_322 dX10_draw_5 ?_
  refine pg_lmul (pc := 8) dX10_draw_8 ?_
  refine pg_ldc2 (pc := 9) (v := 12345) kX10_324 dX10_draw_9 ?_
  refine pg_ladd (pc := 12) dX10_draw_12 ?_
  refine pg_ldc2 (pc := 13) (v := 2147483648) kX10_326 dX10_draw_13 ?_
  refine pg_lrem (pc := 16) dX10_draw_16 (by decide) ?_
  refine pfX10_81 (pc := 17) rfl h0 dX10_draw_17 ?_
  refine pg_named (fun N1 u1 => ?_)
  refine pg_iload_n (pc := 20) (i := 1) (j := 1) (x := v1) dX10_draw_20 rfl rfl ?_
  refine pg_iconst (pc := 21) (v := 1) dX10_draw_21 (by decide) ?_
  refine pg_icmp_ge (pc := 22) (tgt := 29) dX10_draw_22 (by decide) (fun c0 => ?_) (fun c0 => ?_)
  · skip
    refine pg_aload_n (pc := 29) (i := 0) (j := 0) (x := 0) dX10_draw_29 rfl rfl ?_
    refine gfX10_81 (pc := 30) rfl h0 dX10_draw_30 ?_
    refine pg_ldc2 (pc := 33) (v := 65536) kX10_328 dX10_draw_33 ?_
    refine pg_ldiv (pc := 36) dX10_draw_36 (by decide) ?_
    refine pg_iload_n (pc := 37) (i := 1) (j := 1) (x := v1) dX10_draw_37 rfl rfl ?_
    refine pg_i2l (pc := 38) dX10_draw_38 rfl ?_
    refine pg_lrem (pc := 39) dX10_draw_39 (b0 N1 u1 c0) ?_
    refine pg_l2i (pc := 40) dX10_draw_40 rfl ?_
    exact pg_iret (pc := 41) rfl dX10_draw_41 (k0 N1 u1 c0)
  · skip
    refine pg_iconst (pc := 25) (v := 0) dX10_draw_25 (by decide) ?_
    refine pg_goto (pc := 26) (tgt := 41) dX10_draw_26 (by decide) ?_
    exact pg_iret (pc := 41) rfl dX10_draw_41 (k1 N1 u1 c0)
theorem oX10_draw {d : Nat} {v1 : Int32} (h : pg_At S Λ YX10_draw d 0 [(0, .ref 0), (1, .int v1)] [] M P) : pg_Ev S Λ YX10_draw d [.ref 0, .int v1] M P := pg_Ev.of (by decide) (by first | decide | exact Nat.le_of_ble_eq_true rfl) h
theorem sX10_isWorth_0 {v0 : Int32} 
    (k0 : (v0 < 0) → P (some (.int 0)) M)
    (k1 : (¬ v0 < 0) → (9 < v0) → P (some (.int 0)) M)
    (k2 : (¬ v0 < 0) → (¬ 9 < v0) → P (some (.int 1)) M) :
    pg_At S Λ YX10_isWorth d 0 [(0, .int v0)] [] M P := by
  refine pg_iload_n (pc := 0) (i := 0) (j := 0) (x := v0) dX10_isWorth_0 rfl rfl ?_
  refine pg_if_lt (pc := 1) (tgt := 14) dX10_isWorth_1 (by decide) (fun c0 => ?_) (fun c0 => ?_)
  · skip
    refine pg_iconst (pc := 14) (v := 0) dX10_isWorth_14 (by decide) ?_
    exact pg_zret (pc := 15) rfl rfl dX10_isWorth_15 (k0 c0)
  · skip
    refine pg_iload_n (pc := 4) (i := 0) (j := 0) (x := v0) dX10_isWorth_4 rfl rfl ?_
    refine pg_bipush (pc := 5) (v := 9) dX10_isWorth_5 (by decide) ?_
    refine pg_icmp_gt (pc := 7) (tgt := 14) dX10_isWorth_7 (by decide) (fun c1 => ?_) (fun c1 => ?_)
    · skip
      refine pg_iconst (pc := 14) (v := 0) dX10_isWorth_14 (by decide) ?_
      exact pg_zret (pc := 15) rfl rfl dX10_isWorth_15 (k1 c0 c1)
    · skip
      refine pg_iconst (pc := 10) (v := 1) dX10_isWorth_10 (by decide) ?_
      refine pg_goto (pc := 11) (tgt := 15) dX10_isWorth_11 (by decide) ?_
      exact pg_zret (pc := 15) rfl rfl dX10_isWorth_15 (k2 c0 c1)
theorem oX10_isWorth {d : Nat} {v0 : Int32} (h : pg_At S Λ YX10_isWorth d 0 [(0, .int v0)] [] M P) : pg_Ev S Λ YX10_isWorth d [.int v0] M P := pg_Ev.of (by decide) (by first | decide | exact Nat.le_of_ble_eq_true rfl) h
theorem sX10_isRest_0 {v0 : Int32} {v1 : Int32} {v2 : Int32} {v3 : Int32} {Q0 : Int32 → pg_M → Prop}
    (e0 : pg_Ev S Λ YX10_loot d [.int v0, .int v1, .int v2, .int (v3 / 3), .int (v3 - v3 / 3 * 3)] M (fun r M' => ∃ x, r = some (.int x) ∧ Q0 x M'))
    (k0 : ∀ x1 M1, Q0 x1 M1 → pg_At S Λ YX10_isRest (d + 1) 25 [(0, .int v0), (1, .int v1), (2, .int v2), (4, .int (v3 / 3)), (5, .int (v3 - v3 / 3 * 3)), (6, .int x1), (7, .int 0)] [] M1 P) :
    pg_At S Λ YX10_isRest (d + 1) 0 [(0, .int v0), (1, .int v1), (2, .int v2), (3, .int v3)] [] M P := by
  refine pg_iload_n (pc := 0) (i := 3) (j := 3) (x := v3) dX10_isRest_0 rfl rfl ?_
  refine pg_iconst (pc := 1) (v := 3) dX10_isRest_1 (by decide) ?_
  refine pg_idiv (pc := 2) dX10_isRest_2 (by decide) ?_
  refine pg_istore (pc := 3) (i := 4) (ls' := [(4, .int (v3 / 3)), (0, .int v0), (1, .int v1), (2, .int v2), (3, .int v3)]) dX10_isRest_3 (by decide) rfl ?_
  refine pg_iload_n (pc := 5) (i := 3) (j := 4) (x := v3) dX10_isRest_5 rfl rfl ?_
  refine pg_iconst (pc := 6) (v := 3) dX10_isRest_6 (by decide) ?_
  refine pg_irem (pc := 7) dX10_isRest_7 (by decide) ?_
  refine pg_istore (pc := 8) (i := 5) (ls' := [(5, .int (v3 - v3 / 3 * 3)), (4, .int (v3 / 3)), (0, .int v0), (1, .int v1), (2, .int v2), (3, .int v3)]) dX10_isRest_8 (by decide) rfl ?_
  refine pg_iload_n (pc := 10) (i := 0) (j := 2) (x := v0) dX10_isRest_10 rfl rfl ?_
  refine pg_iload_n (pc := 11) (i := 1) (j := 3) (x := v1) dX10_isRest_11 rfl rfl ?_
  refine pg_iload_n (pc := 12) (i := 2) (j := 4) (x := v2) dX10_isRest_12 rfl rfl ?_
  refine pg_iload (pc := 13) (i := 4) (j := 1) (x := (v3 / 3)) dX10_isRest_13 rfl ?_
  refine pg_iload (pc := 15) (i := 5) (j := 0) (x := (v3 - v3 / 3 * 3)) dX10_isRest_15 rfl ?_
  refine pg_callS (pc := 17) (As := [.int v0, .int v1, .int v2, .int (v3 / 3), .int (v3 - v3 / 3 * 3)]) (st := []) okX10_loot lkX10_330 rfl (Nat.le_refl _) (Nat.le_of_ble_eq_true rfl) e0 dX10_isRest_17 (fun r1 M1 w1 => ?_)
  obtain ⟨x1, rfl, w1⟩ := w1
  refine pg_istore (pc := 20) (i := 6) (ls' := [(6, .int x1), (5, .int (v3 - v3 / 3 * 3)), (4, .int (v3 / 3)), (0, .int v0), (1, .int v1), (2, .int v2), (3, .int v3)]) dX10_isRest_20 (by decide) rfl ?_
  refine pg_iconst (pc := 22) (v := 0) dX10_isRest_22 (by decide) ?_
  refine pg_istore (pc := 23) (i := 7) (ls' := [(7, .int 0), (6, .int x1), (5, .int (v3 - v3 / 3 * 3)), (4, .int (v3 / 3)), (0, .int v0), (1, .int v1), (2, .int v2), (3, .int v3)]) dX10_isRest_23 (by decide) rfl ?_
  refine pg_drop (ks := [4, 5, 6, 3, 2, 1, 0]) (ls' := [(0, .int v0), (1, .int v1), (2, .int v2), (4, .int (v3 / 3)), (5, .int (v3 - v3 / 3 * 3)), (6, .int x1), (7, .int 0)]) rfl ?_
  exact k0 x1 M1 w1
theorem sX10_isRest_25 {v0 : Int32} {v1 : Int32} {v2 : Int32} {v4 : Int32} {v5 : Int32} {v6 : Int32} {v7 : Int32} {Q0 : Int32 → pg_M → Prop} {Q1 : Int32 → pg_M → Prop}
    (k0 : (3 ≤ v7) → P (some (.int 1)) M)
    (e0 : (¬ 3 ≤ v7) → pg_Ev S Λ YX10_loot d [.int v0, .int v1, .int v2, .int v7, .int v5] M (fun r M' => ∃ x, r = some (.int x) ∧ Q0 x M'))
    (k1 : (¬ 3 ≤ v7) → ∀ x1 M1, Q0 x1 M1 → (x1 < v6) → P (some (.int 0)) M1)
    (e1 : (¬ 3 ≤ v7) → ∀ x1 M1, Q0 x1 M1 → (¬ x1 < v6) → pg_Ev S Λ YX10_loot d [.int v0, .int v1, .int v2, .int v4, .int v7] M1 (fun r M' => ∃ x, r = some (.int x) ∧ Q1 x M'))
    (k2 : (¬ 3 ≤ v7) → ∀ x1 M1, Q0 x1 M1 → (¬ x1 < v6) → ∀ x2 M2, Q1 x2 M2 → (x2 ≤ v6) → pg_At S Λ YX10_isRest (d + 1) 25 [(0, .int v0), (1, .int v1), (2, .int v2), (4, .int v4), (5, .int v5), (6, .int v6), (7, .int (v7 + 1))] [] M2 P)
    (k3 : (¬ 3 ≤ v7) → ∀ x1 M1, Q0 x1 M1 → (¬ x1 < v6) → ∀ x2 M2, Q1 x2 M2 → (¬ x2 ≤ v6) → P (some (.int 0)) M2) :
    pg_At S Λ YX10_isRest (d + 1) 25 [(0, .int v0), (1, .int v1), (2, .int v2), (4, .int v4), (5, .int v5), (6, .int v6), (7, .int v7)] [] M P := by
  refine pg_iload (pc := 25) (i := 7) (j := 6) (x := v7) dX10_isRest_25 rfl ?_
  refine pg_iconst (pc := 27) (v := 3) dX10_isRest_27 (by decide) ?_
  refine pg_icmp_ge (pc := 28) (tgt := 69) dX10_isRest_28 (by decide) (fun c0 => ?_) (fun c0 => ?_)
  · skip
    refine pg_iconst (pc := 69) (v := 1) dX10_isRest_69 (by decide) ?_
    exact pg_zret (pc := 70) rfl rfl dX10_isRest_70 (k0 c0)
  · skip
    refine pg_iload_n (pc := 31) (i := 0) (j := 0) (x := v0) dX10_isRest_31 rfl rfl ?_
    refine pg_iload_n (pc := 32) (i := 1) (j := 1) (x := v1) dX10_isRest_32 rfl rfl ?_
    refine pg_iload_n (pc := 33) (i := 2) (j := 2) (x := v2) dX10_isRest_33 rfl rfl ?_
    refine pg_iload (pc := 34) (i := 7) (j := 6) (x := v7) dX10_isRest_34 rfl ?_
    refine pg_iload (pc := 36) (i := 5) (j := 4) (x := v5) dX10_isRest_36 rfl ?_
    refine pg_callS (pc := 38) (As := [.int v0, .int v1, .int v2, .int v7, .int v5]) (st := []) okX10_loot lkX10_330 rfl (Nat.le_refl _) (Nat.le_of_ble_eq_true rfl) (e0 c0) dX10_isRest_38 (fun r1 M1 w1 => ?_)
    obtain ⟨x1, rfl, w1⟩ := w1
    refine pg_iload (pc := 41) (i := 6) (j := 5) (x := v6) dX10_isRest_41 rfl ?_
    refine pg_icmp_lt (pc := 43) (tgt := 61) dX10_isRest_43 (by decide) (fun c1 => ?_) (fun c1 => ?_)
    · skip
      refine pg_iconst (pc := 61) (v := 0) dX10_isRest_61 (by decide) ?_
      exact pg_zret (pc := 62) rfl rfl dX10_isRest_62 (k1 c0 x1 M1 w1 c1)
    · skip
      refine pg_iload_n (pc := 46) (i := 0) (j := 0) (x := v0) dX10_isRest_46 rfl rfl ?_
      refine pg_iload_n (pc := 47) (i := 1) (j := 1) (x := v1) dX10_isRest_47 rfl rfl ?_
      refine pg_iload_n (pc := 48) (i := 2) (j := 2) (x := v2) dX10_isRest_48 rfl rfl ?_
      refine pg_iload (pc := 49) (i := 4) (j := 3) (x := v4) dX10_isRest_49 rfl ?_
      refine pg_iload (pc := 51) (i := 7) (j := 6) (x := v7) dX10_isRest_51 rfl ?_
      refine pg_callS (pc := 53) (As := [.int v0, .int v1, .int v2, .int v4, .int v7]) (st := []) okX10_loot lkX10_330 rfl (Nat.le_refl _) (Nat.le_of_ble_eq_true rfl) (e1 c0 x1 M1 w1 c1) dX10_isRest_53 (fun r2 M2 w2 => ?_)
      obtain ⟨x2, rfl, w2⟩ := w2
      refine pg_iload (pc := 56) (i := 6) (j := 5) (x := v6) dX10_isRest_56 rfl ?_
      refine pg_icmp_le (pc := 58) (tgt := 63) dX10_isRest_58 (by decide) (fun c2 => ?_) (fun c2 => ?_)
      · skip
        refine pg_iinc (pc := 63) (i := 7) (j := 6) (x := v7) (v := v7 + 1) (ls' := [(7, .int (v7 + 1)), (0, .int v0), (1, .int v1), (2, .int v2), (4, .int v4), (5, .int v5), (6, .int v6)]) dX10_isRest_63 rfl rfl (by decide) rfl ?_
        refine pg_goto (pc := 66) (tgt := 25) dX10_isRest_66 (by decide) ?_
        refine pg_drop (ks := [1, 2, 3, 4, 5, 6, 0]) (ls' := [(0, .int v0), (1, .int v1), (2, .int v2), (4, .int v4), (5, .int v5), (6, .int v6), (7, .int (v7 + 1))]) rfl ?_
        exact k2 c0 x1 M1 w1 c1 x2 M2 w2 c2
      · skip
        refine pg_iconst (pc := 61) (v := 0) dX10_isRest_61 (by decide) ?_
        exact pg_zret (pc := 62) rfl rfl dX10_isRest_62 (k3 c0 x1 M1 w1 c1 x2 M2 w2 c2)
theorem oX10_isRest {d : Nat} {v0 : Int32} {v1 : Int32} {v2 : Int32} {v3 : Int32} (h : pg_At S Λ YX10_isRest d 0 [(0, .int v0), (1, .int v1), (2, .int v2), (3, .int v3)] [] M P) : pg_Ev S Λ YX10_isRest d [.int v0, .int v1, .int v2, .int v3] M P := pg_Ev.of (by decide) (by first | decide | exact Nat.le_of_ble_eq_true rfl) h
theorem sX10_loot_0 {v0 : Int32} {v1 : Int32} {v2 : Int32} {v3 : Int32} {v4 : Int32} 
    (k0 : (¬ v3 = v4) → (¬ v4 = 0) → (¬ v4 = 1) → P (some (.int v2)) M)
    (k1 : (¬ v3 = v4) → (¬ v4 = 0) → (v4 = 1) → P (some (.int v1)) M)
    (k2 : (¬ v3 = v4) → (v4 = 0) → P (some (.int v0)) M)
    (k3 : (v3 = v4) → P (some (.int 0)) M) :
    pg_At S Λ YX10_loot d 0 [(0, .int v0), (1, .int v1), (2, .int v2), (3, .int v3), (4, .int v4)] [] M P := by
  refine pg_iload_n (pc := 0) (i := 3) (j := 3) (x := v3) dX10_loot_0 rfl rfl ?_
  refine pg_iload (pc := 1) (i := 4) (j := 4) (x := v4) dX10_loot_1 rfl ?_
  refine pg_icmp_ne (pc := 3) (tgt := 8) dX10_loot_3 (by decide) (fun c0 => ?_) (fun c0 => ?_)
  · skip
    refine pg_iload (pc := 8) (i := 4) (j := 4) (x := v4) dX10_loot_8 rfl ?_
    refine pg_if_ne (pc := 10) (tgt := 15) dX10_loot_10 (by decide) (fun c1 => ?_) (fun c1 => ?_)
    · skip
      refine pg_iload (pc := 15) (i := 4) (j := 4) (x := v4) dX10_loot_15 rfl ?_
      refine pg_iconst (pc := 17) (v := 1) dX10_loot_17 (by decide) ?_
      refine pg_icmp_ne (pc := 18) (tgt := 25) dX10_loot_18 (by decide) (fun c2 => ?_) (fun c2 => ?_)
      · skip
        refine pg_iload_n (pc := 25) (i := 2) (j := 2) (x := v2) dX10_loot_25 rfl rfl ?_
        exact pg_iret (pc := 26) rfl dX10_loot_26 (k0 c0 c1 c2)
      · skip
        refine pg_iload_n (pc := 21) (i := 1) (j := 1) (x := v1) dX10_loot_21 rfl rfl ?_
        refine pg_goto (pc := 22) (tgt := 26) dX10_loot_22 (by decide) ?_
        exact pg_iret (pc := 26) rfl dX10_loot_26 (k1 c0 c1 c2)
    · skip
      refine pg_iload_n (pc := 13) (i := 0) (j := 0) (x := v0) dX10_loot_13 rfl rfl ?_
      exact pg_iret (pc := 14) rfl dX10_loot_14 (k2 c0 c1)
  · skip
    refine pg_iconst (pc := 6) (v := 0) dX10_loot_6 (by decide) ?_
    exact pg_iret (pc := 7) rfl dX10_loot_7 (k3 c0)
theorem oX10_loot {d : Nat} {v0 : Int32} {v1 : Int32} {v2 : Int32} {v3 : Int32} {v4 : Int32} (h : pg_At S Λ YX10_loot d 0 [(0, .int v0), (1, .int v1), (2, .int v2), (3, .int v3), (4, .int v4)] [] M P) : pg_Ev S Λ YX10_loot d [.int v0, .int v1, .int v2, .int v3, .int v4] M P := pg_Ev.of (by decide) (by first | decide | exact Nat.le_of_ble_eq_true rfl) h

end PGS

