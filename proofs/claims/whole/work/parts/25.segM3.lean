section PGS
variable {S : pg_S} {Λ : pg_L} {d : Nat} {M : pg_M} {P : Option Value → pg_M → Prop}

theorem sX11_clashesIn_0 {v1 : Int32} 
    (k0 : pg_At S Λ YX11_clashesIn (d + 1) 4 [(0, .ref 207), (1, .int v1), (2, .int 0), (3, .int 0)] [] M P) :
    pg_At S Λ YX11_clashesIn (d + 1) 0 [(0, .ref 207), (1, .int v1)] [] M P := by
  refine pg_iconst (pc := 0) (v := 0) dX11_clashesIn_0 (by decide) ?_
  refine pg_istore_n (pc := 1) (i := 2) (ls' := [(2, .int 0), (0, .ref 207), (1, .int v1)]) dX11_clashesIn_1 rfl (by decide) rfl ?_
  refine pg_iconst (pc := 2) (v := 0) dX11_clashesIn_2 (by decide) ?_
  refine pg_istore_n (pc := 3) (i := 3) (ls' := [(3, .int 0), (2, .int 0), (0, .ref 207), (1, .int v1)]) dX11_clashesIn_3 rfl (by decide) rfl ?_
  refine pg_drop (ks := [2, 3, 1, 0]) (ls' := [(0, .ref 207), (1, .int v1), (2, .int 0), (3, .int 0)]) rfl ?_
  exact k0
theorem sX11_clashesIn_4 {v1 : Int32} {v2 : Int32} {v3 : Int32} {Q0 : Int32 → pg_M → Prop}
    (h0 : pg_isX11 Λ)
    (e0 : pg_Ev S Λ YX11_cloths d [.ref 207] M (fun r M' => ∃ x, r = some (.int x) ∧ Q0 x M'))
    (k0 : ∀ x1 M1, Q0 x1 M1 → (x1 ≤ v3) → P (some (.int v2)) M1)
    (k1 : ∀ x1 M1, Q0 x1 M1 → (¬ x1 ≤ v3) → pg_At S Λ YX11_clashesIn (d + 1) 15 [(0, .ref 207), (1, .int v1), (2, .int v2), (3, .int v3), (4, .int 0)] [] M1 P) :
    pg_At S Λ YX11_clashesIn (d + 1) 4 [(0, .ref 207), (1, .int v1), (2, .int v2), (3, .int v3)] [] M P := by
  refine pg_iload_n (pc := 4) (i := 3) (j := 3) (x := v3) dX11_clashesIn_4 rfl rfl ?_
  refine pg_aload_n (pc := 5) (i := 0) (j := 0) (x := 207) dX11_clashesIn_5 rfl rfl ?_
  refine pg_callV (pc := 6) (As := []) (st := [.int v3]) okX11_cloths lkX11_292 rfl h0.1 rfl (Nat.le_refl _) (Nat.le_of_ble_eq_true rfl) e0 dX11_clashesIn_6 (fun r1 M1 w1 => ?_)
  obtain ⟨x1, rfl, w1⟩ := w1
  refine pg_icmp_ge (pc := 9) (tgt := 79) dX11_clashesIn_9 (by decide) (fun c0 => ?_) (fun c0 => ?_)
  · skip
    refine pg_iload_n (pc := 79) (i := 2) (j := 2) (x := v2) dX11_clashesIn_79 rfl rfl ?_
    exact pg_iret (pc := 80) rfl dX11_clashesIn_80 (k0 x1 M1 w1 c0)
  · skip
    refine pg_iconst (pc := 12) (v := 0) dX11_clashesIn_12 (by decide) ?_
    refine pg_istore (pc := 13) (i := 4) (ls' := [(4, .int 0), (0, .ref 207), (1, .int v1), (2, .int v2), (3, .int v3)]) dX11_clashesIn_13 (by decide) rfl ?_
    refine pg_drop (ks := [1, 2, 3, 4, 0]) (ls' := [(0, .ref 207), (1, .int v1), (2, .int v2), (3, .int v3), (4, .int 0)]) rfl ?_
    exact k1 x1 M1 w1 c0
theorem sX11_clashesIn_15 {v1 : Int32} {v2 : Int32} {v3 : Int32} {v4 : Int32} 
    (h0 : pg_isX11 Λ)
    (k0 : (v3 ≤ v4) → pg_At S Λ YX11_clashesIn (d + 1) 4 [(0, .ref 207), (1, .int v1), (2, .int v2), (3, .int (v3 + 1))] [] M P)
    (b0 : (¬ v3 ≤ v4) → vp_in ((32 + (6 * v3)) + v4) 200)
    (k1 : (¬ v3 ≤ v4) → (¬ (M.1 213 ((32 + (6 * v3)) + v4).toNatClampNeg) = 1) → pg_At S Λ YX11_clashesIn (d + 1) 15 [(0, .ref 207), (1, .int v1), (2, .int (v2 + 0)), (3, .int v3), (4, .int (v4 + 1))] [] M P)
    (k2 : (¬ v3 ≤ v4) → ((M.1 213 ((32 + (6 * v3)) + v4).toNatClampNeg) = 1) → (¬ ((v1 >>> (v3 &&& 31)) &&& 1) = 1) → pg_At S Λ YX11_clashesIn (d + 1) 15 [(0, .ref 207), (1, .int v1), (2, .int (v2 + 0)), (3, .int v3), (4, .int (v4 + 1))] [] M P)
    (k3 : (¬ v3 ≤ v4) → ((M.1 213 ((32 + (6 * v3)) + v4).toNatClampNeg) = 1) → (((v1 >>> (v3 &&& 31)) &&& 1) = 1) → (¬ ((v1 >>> (v4 &&& 31)) &&& 1) = 1) → pg_At S Λ YX11_clashesIn (d + 1) 15 [(0, .ref 207), (1, .int v1), (2, .int (v2 + 0)), (3, .int v3), (4, .int (v4 + 1))] [] M P)
    (k4 : (¬ v3 ≤ v4) → ((M.1 213 ((32 + (6 * v3)) + v4).toNatClampNeg) = 1) → (((v1 >>> (v3 &&& 31)) &&& 1) = 1) → (((v1 >>> (v4 &&& 31)) &&& 1) = 1) → pg_At S Λ YX11_clashesIn (d + 1) 15 [(0, .ref 207), (1, .int v1), (2, .int (v2 + 1)), (3, .int v3), (4, .int (v4 + 1))] [] M P) :
    pg_At S Λ YX11_clashesIn (d + 1) 15 [(0, .ref 207), (1, .int v1), (2, .int v2), (3, .int v3), (4, .int v4)] [] M P := by
  refine pg_iload (pc := 15) (i := 4) (j := 4) (x := v4) dX11_clashesIn_15 rfl ?_
  refine pg_iload_n (pc := 17) (i := 3) (j := 3) (x := v3) dX11_clashesIn_17 rfl rfl ?_
  refine pg_icmp_ge (pc := 18) (tgt := 73) dX11_clashesIn_18 (by decide) (fun c0 => ?_) (fun c0 => ?_)
  · skip
    refine pg_iinc (pc := 73) (i := 3) (j := 3) (x := v3) (v := v3 + 1) (ls' := [(3, .int (v3 + 1)), (0, .ref 207), (1, .int v1), (2, .int v2), (4, .int v4)]) dX11_clashesIn_73 rfl rfl (by decide) rfl ?_
    refine pg_goto (pc := 76) (tgt := 4) dX11_clashesIn_76 (by decide) ?_
    refine pg_drop (ks := [1, 2, 3, 0]) (ls' := [(0, .ref 207), (1, .int v1), (2, .int v2), (3, .int (v3 + 1))]) rfl ?_
    exact k0 c0
  · skip
    refine pg_iload_n (pc := 21) (i := 2) (j := 2) (x := v2) dX11_clashesIn_21 rfl rfl ?_
    refine pg_aload_n (pc := 22) (i := 0) (j := 0) (x := 207) dX11_clashesIn_22 rfl rfl ?_
    refine gfX11_89 (pc := 23) rfl h0 dX11_clashesIn_23 ?_
    refine pg_bipush (pc := 26) (v := 32) dX11_clashesIn_26 (by decide) ?_
    refine pg_bipush (pc := 28) (v := 6) dX11_clashesIn_28 (by decide) ?_
    refine pg_iload_n (pc := 30) (i := 3) (j := 3) (x := v3) dX11_clashesIn_30 rfl rfl ?_
    refine pg_imul (pc := 31) dX11_clashesIn_31 ?_
    refine pg_iadd (pc := 32) dX11_clashesIn_32 ?_
    refine pg_iload (pc := 33) (i := 4) (j := 4) (x := v4) dX11_clashesIn_33 rfl ?_
    refine pg_iadd (pc := 35) dX11_clashesIn_35 ?_
    refine pg_iald (pc := 36) h0.2.2.2.2.2.2.1 (b0 c0) dX11_clashesIn_36 ?_
    refine pg_iconst (pc := 37) (v := 1) dX11_clashesIn_37 (by decide) ?_
    refine pg_icmp_ne (pc := 38) (tgt := 64) dX11_clashesIn_38 (by decide) (fun c1 => ?_) (fun c1 => ?_)
    · skip
      refine pg_iconst (pc := 64) (v := 0) dX11_clashesIn_64 (by decide) ?_
      refine pg_iadd (pc := 65) dX11_clashesIn_65 ?_
      refine pg_istore_n (pc := 66) (i := 2) (ls' := [(2, .int (v2 + 0)), (0, .ref 207), (1, .int v1), (3, .int v3), (4, .int v4)]) dX11_clashesIn_66 rfl (by decide) rfl ?_
      refine pg_iinc (pc := 67) (i := 4) (j := 4) (x := v4) (v := v4 + 1) (ls' := [(4, .int (v4 + 1)), (2, .int (v2 + 0)), (0, .ref 207), (1, .int v1), (3, .int v3)]) dX11_clashesIn_67 rfl rfl (by decide) rfl ?_
      refine pg_goto (pc := 70) (tgt := 15) dX11_clashesIn_70 (by decide) ?_
      refine pg_drop (ks := [2, 3, 1, 4, 0]) (ls' := [(0, .ref 207), (1, .int v1), (2, .int (v2 + 0)), (3, .int v3), (4, .int (v4 + 1))]) rfl ?_
      exact k1 c0 c1
    · skip
      refine pg_iload_n (pc := 41) (i := 1) (j := 1) (x := v1) dX11_clashesIn_41 rfl rfl ?_
      refine pg_iload_n (pc := 42) (i := 3) (j := 3) (x := v3) dX11_clashesIn_42 rfl rfl ?_
      refine pg_ishr (pc := 43) dX11_clashesIn_43 ?_
      refine pg_iconst (pc := 44) (v := 1) dX11_clashesIn_44 (by decide) ?_
      refine pg_iand (pc := 45) dX11_clashesIn_45 ?_
      refine pg_iconst (pc := 46) (v := 1) dX11_clashesIn_46 (by decide) ?_
      refine pg_icmp_ne (pc := 47) (tgt := 64) dX11_clashesIn_47 (by decide) (fun c2 => ?_) (fun c2 => ?_)
      · skip
        refine pg_iconst (pc := 64) (v := 0) dX11_clashesIn_64 (by decide) ?_
        refine pg_iadd (pc := 65) dX11_clashesIn_65 ?_
        refine pg_istore_n (pc := 66) (i := 2) (ls' := [(2, .int (v2 + 0)), (0, .ref 207), (1, .int v1), (3, .int v3), (4, .int v4)]) dX11_clashesIn_66 rfl (by decide) rfl ?_
        refine pg_iinc (pc := 67) (i := 4) (j := 4) (x := v4) (v := v4 + 1) (ls' := [(4, .int (v4 + 1)), (2, .int (v2 + 0)), (0, .ref 207), (1, .int v1), (3, .int v3)]) dX11_clashesIn_67 rfl rfl (by decide) rfl ?_
        refine pg_goto (pc := 70) (tgt := 15) dX11_clashesIn_70 (by decide) ?_
        refine pg_drop (ks := [2, 3, 1, 4, 0]) (ls' := [(0, .ref 207), (1, .int v1), (2, .int (v2 + 0)), (3, .int v3), (4, .int (v4 + 1))]) rfl ?_
        exact k2 c0 c1 c2
      · skip
        refine pg_iload_n (pc := 50) (i := 1) (j := 1) (x := v1) dX11_clashesIn_50 rfl rfl ?_
        refine pg_iload (pc := 51) (i := 4) (j := 4) (x := v4) dX11_clashesIn_51 rfl ?_
        refine pg_ishr (pc := 53) dX11_clashesIn_53 ?_
        refine pg_iconst (pc := 54) (v := 1) dX11_clashesIn_54 (by decide) ?_
        refine pg_iand (pc := 55) dX11_clashesIn_55 ?_
        refine pg_iconst (pc := 56) (v := 1) dX11_clashesIn_56 (by decide) ?_
        refine pg_icmp_ne (pc := 57) (tgt := 64) dX11_clashesIn_57 (by decide) (fun c3 => ?_) (fun c3 => ?_)
        · skip
          refine pg_iconst (pc := 64) (v := 0) dX11_clashesIn_64 (by decide) ?_
          refine pg_iadd (pc := 65) dX11_clashesIn_65 ?_
          refine pg_istore_n (pc := 66) (i := 2) (ls' := [(2, .int (v2 + 0)), (0, .ref 207), (1, .int v1), (3, .int v3), (4, .int v4)]) dX11_clashesIn_66 rfl (by decide) rfl ?_
          refine pg_iinc (pc := 67) (i := 4) (j := 4) (x := v4) (v := v4 + 1) (ls' := [(4, .int (v4 + 1)), (2, .int (v2 + 0)), (0, .ref 207), (1, .int v1), (3, .int v3)]) dX11_clashesIn_67 rfl rfl (by decide) rfl ?_
          refine pg_goto (pc := 70) (tgt := 15) dX11_clashesIn_70 (by decide) ?_
          refine pg_drop (ks := [2, 3, 1, 4, 0]) (ls' := [(0, .ref 207), (1, .int v1), (2, .int (v2 + 0)), (3, .int v3), (4, .int (v4 + 1))]) rfl ?_
          exact k3 c0 c1 c2 c3
        · skip
          refine pg_iconst (pc := 60) (v := 1) dX11_clashesIn_60 (by decide) ?_
          refine pg_goto (pc := 61) (tgt := 65) dX11_clashesIn_61 (by decide) ?_
          refine pg_iadd (pc := 65) dX11_clashesIn_65 ?_
          refine pg_istore_n (pc := 66) (i := 2) (ls' := [(2, .int (v2 + 1)), (0, .ref 207), (1, .int v1), (3, .int v3), (4, .int v4)]) dX11_clashesIn_66 rfl (by decide) rfl ?_
          refine pg_iinc (pc := 67) (i := 4) (j := 4) (x := v4) (v := v4 + 1) (ls' := [(4, .int (v4 + 1)), (2, .int (v2 + 1)), (0, .ref 207), (1, .int v1), (3, .int v3)]) dX11_clashesIn_67 rfl rfl (by decide) rfl ?_
          refine pg_goto (pc := 70) (tgt := 15) dX11_clashesIn_70 (by decide) ?_
          refine pg_drop (ks := [2, 3, 1, 4, 0]) (ls' := [(0, .ref 207), (1, .int v1), (2, .int (v2 + 1)), (3, .int v3), (4, .int (v4 + 1))]) rfl ?_
          exact k4 c0 c1 c2 c3
theorem oX11_clashesIn {d : Nat} {v1 : Int32} (h : pg_At S Λ YX11_clashesIn d 0 [(0, .ref 207), (1, .int v1)] [] M P) : pg_Ev S Λ YX11_clashesIn d [.ref 207, .int v1] M P := pg_Ev.of (by decide) (by first | decide | exact Nat.le_of_ble_eq_true rfl) h
theorem sX11_clashes_0  {Q0 : Int32 → pg_M → Prop} {Q1 : Int32 → pg_M → Prop}
    (h0 : pg_isX11 Λ)
    (e0 : pg_Ev S Λ YX11_lawsOf d [.ref 207, .int 0] (pg_si M 207 0 0) (fun r M' => ∃ x, r = some (.int x) ∧ Q0 x M'))
    (e1 : ∀ x1 M1, Q0 x1 M1 → pg_Ev S Λ YX11_clashesIn d [.ref 207, .int x1] M1 (fun r M' => ∃ x, r = some (.int x) ∧ Q1 x M'))
    (k0 : ∀ x1 M1, Q0 x1 M1 → ∀ x2 M2, Q1 x2 M2 → P (some (.int x2)) M2) :
    pg_At S Λ YX11_clashes (d + 1) 0 [(0, .ref 207)] [] M P := by
  refine pg_aload_n (pc := 0) (i := 0) (j := 0) (x := 207) dX11_clashes_0 rfl rfl ?_
  refine pg_iconst (pc := 1) (v := 0) dX11_clashes_1 (by decide) ?_
  refine pfX11_1 (pc := 2) rfl h0 dX11_clashes_2 ?_
  refine pg_aload_n (pc := 5) (i := 0) (j := 0) (x := 207) dX11_clashes_5 rfl rfl ?_
  refine pg_aload_n (pc := 6) (i := 0) (j := 0) (x := 207) dX11_clashes_6 rfl rfl ?_
  refine pg_iconst (pc := 7) (v := 0) dX11_clashes_7 (by decide) ?_
  refine pg_callV (pc := 8) (As := [.int 0]) (st := [.ref 207]) okX11_lawsOf lkX11_358 rfl h0.1 rfl (Nat.le_refl _) (Nat.le_of_ble_eq_true rfl) e0 dX11_clashes_8 (fun r1 M1 w1 => ?_)
  obtain ⟨x1, rfl, w1⟩ := w1
  refine pg_callV (pc := 11) (As := [.int x1]) (st := []) okX11_clashesIn lkX11_388 rfl h0.1 rfl (Nat.le_refl _) (Nat.le_of_ble_eq_true rfl) (e1 x1 M1 w1) dX11_clashes_11 (fun r2 M2 w2 => ?_)
  obtain ⟨x2, rfl, w2⟩ := w2
  exact pg_iret (pc := 14) rfl dX11_clashes_14 (k0 x1 M1 w1 x2 M2 w2)
theorem oX11_clashes {d : Nat}  (h : pg_At S Λ YX11_clashes d 0 [(0, .ref 207)] [] M P) : pg_Ev S Λ YX11_clashes d [.ref 207] M P := pg_Ev.of (by decide) (by first | decide | exact Nat.le_of_ble_eq_true rfl) h
theorem sX11_mend_0 {v1 : Int32} {Q0 : Int32 → pg_M → Prop} {Q1 : Int32 → pg_M → Prop}
    (h0 : pg_isX11 Λ)
    (e0 : pg_Ev S Λ YX11_within d [.int v1, .int 0, .int 1] (pg_si M 207 0 0) (fun r M' => ∃ x, r = some (.int x) ∧ Q0 x M'))
    (e1 : ∀ x1 M1, Q0 x1 M1 → (¬ x1 = 0) → pg_Ev S Λ YX11_lawsOf d [.ref 207, .int 0] M1 (fun r M' => ∃ x, r = some (.int x) ∧ Q1 x M'))
    (k0 : ∀ x1 M1, Q0 x1 M1 → (¬ x1 = 0) → ∀ x2 M2, Q1 x2 M2 → pg_At S Λ YX11_mend (d + 1) 27 [(0, .ref 207), (1, .int v1), (2, .int x2), (3, .int (-1)), (4, .int 0)] [] M2 P)
    (k1 : ∀ x1 M1, Q0 x1 M1 → (x1 = 0) → P (some (.int (-1))) M1) :
    pg_At S Λ YX11_mend (d + 1) 0 [(0, .ref 207), (1, .int v1)] [] M P := by
  refine pg_aload_n (pc := 0) (i := 0) (j := 0) (x := 207) dX11_mend_0 rfl rfl ?_
  refine pg_iconst (pc := 1) (v := 0) dX11_mend_1 (by decide) ?_
  refine pfX11_1 (pc := 2) rfl h0 dX11_mend_2 ?_
  refine pg_iload_n (pc := 5) (i := 1) (j := 1) (x := v1) dX11_mend_5 rfl rfl ?_
  refine pg_iconst (pc := 6) (v := 0) dX11_mend_6 (by decide) ?_
  refine pg_iconst (pc := 7) (v := 1) dX11_mend_7 (by decide) ?_
  refine pg_callS (pc := 8) (As := [.int v1, .int 0, .int 1]) (st := []) okX11_within lkX11_349 rfl (Nat.le_refl _) (Nat.le_of_ble_eq_true rfl) e0 dX11_mend_8 (fun r1 M1 w1 => ?_)
  obtain ⟨x1, rfl, w1⟩ := w1
  refine pg_if_ne (pc := 11) (tgt := 16) dX11_mend_11 (by decide) (fun c0 => ?_) (fun c0 => ?_)
  · skip
    refine pg_aload_n (pc := 16) (i := 0) (j := 0) (x := 207) dX11_mend_16 rfl rfl ?_
    refine pg_iconst (pc := 17) (v := 0) dX11_mend_17 (by decide) ?_
    refine pg_callV (pc := 18) (As := [.int 0]) (st := []) okX11_lawsOf lkX11_358 rfl h0.1 rfl (Nat.le_refl _) (Nat.le_of_ble_eq_true rfl) (e1 x1 M1 w1 c0) dX11_mend_18 (fun r2 M2 w2 => ?_)
    obtain ⟨x2, rfl, w2⟩ := w2
    refine pg_istore_n (pc := 21) (i := 2) (ls' := [(2, .int x2), (0, .ref 207), (1, .int v1)]) dX11_mend_21 rfl (by decide) rfl ?_
    refine pg_iconst (pc := 22) (v := (-1)) dX11_mend_22 (by decide) ?_
    refine pg_istore_n (pc := 23) (i := 3) (ls' := [(3, .int (-1)), (2, .int x2), (0, .ref 207), (1, .int v1)]) dX11_mend_23 rfl (by decide) rfl ?_
    refine pg_iconst (pc := 24) (v := 0) dX11_mend_24 (by decide) ?_
    refine pg_istore (pc := 25) (i := 4) (ls' := [(4, .int 0), (3, .int (-1)), (2, .int x2), (0, .ref 207), (1, .int v1)]) dX11_mend_25 (by decide) rfl ?_
    refine pg_drop (ks := [3, 4, 2, 1, 0]) (ls' := [(0, .ref 207), (1, .int v1), (2, .int x2), (3, .int (-1)), (4, .int 0)]) rfl ?_
    exact k0 x1 M1 w1 c0 x2 M2 w2
  · skip
    refine pg_iconst (pc := 14) (v := (-1)) dX11_mend_14 (by decide) ?_
    exact pg_iret (pc := 15) rfl dX11_mend_15 (k1 x1 M1 w1 c0)
theorem sX11_mend_27 {v1 : Int32} {v2 : Int32} {v3 : Int32} {v4 : Int32} {Q0 : Int32 → pg_M → Prop} {Q1 : Int32 → pg_M → Prop} {Q2 : Int32 → pg_M → Prop}
    (h0 : pg_isX11 Λ)
    (e0 : pg_Ev S Λ YX11_cloths d [.ref 207] M (fun r M' => ∃ x, r = some (.int x) ∧ Q0 x M'))
    (k0 : ∀ x1 M1, Q0 x1 M1 → (((1 : Int32) <<< (x1 &&& 31)) ≤ v4) → (¬ v1 = 0) → P (some (.int v3)) M1)
    (e1 : ∀ x1 M1, Q0 x1 M1 → (((1 : Int32) <<< (x1 &&& 31)) ≤ v4) → (v1 = 0) → pg_Ev S Λ YX11_worthOf d [.ref 207, .int v3] M1 (fun r M' => ∃ x, r = some (.int x) ∧ Q1 x M'))
    (k1 : ∀ x1 M1, Q0 x1 M1 → (((1 : Int32) <<< (x1 &&& 31)) ≤ v4) → (v1 = 0) → ∀ x2 M2, Q1 x2 M2 → P (some (.int x2)) M2)
    (k2 : ∀ x1 M1, Q0 x1 M1 → (¬ ((1 : Int32) <<< (x1 &&& 31)) ≤ v4) → (¬ (v4 &&& (v2 ^^^ (-1))) = 0) → pg_At S Λ YX11_mend (d + 1) 65 [(0, .ref 207), (1, .int v1), (2, .int v2), (3, .int v3), (4, .int v4)] [.int 0] M1 P)
    (e2 : ∀ x1 M1, Q0 x1 M1 → (¬ ((1 : Int32) <<< (x1 &&& 31)) ≤ v4) → ((v4 &&& (v2 ^^^ (-1))) = 0) → pg_Ev S Λ YX11_clashesIn d [.ref 207, .int (v2 &&& (v4 ^^^ (-1)))] M1 (fun r M' => ∃ x, r = some (.int x) ∧ Q2 x M'))
    (k3 : ∀ x1 M1, Q0 x1 M1 → (¬ ((1 : Int32) <<< (x1 &&& 31)) ≤ v4) → ((v4 &&& (v2 ^^^ (-1))) = 0) → ∀ x3 M3, Q2 x3 M3 → (¬ x3 = 0) → pg_At S Λ YX11_mend (d + 1) 65 [(0, .ref 207), (1, .int v1), (2, .int v2), (3, .int v3), (4, .int v4)] [.int 0] M3 P)
    (k4 : ∀ x1 M1, Q0 x1 M1 → (¬ ((1 : Int32) <<< (x1 &&& 31)) ≤ v4) → ((v4 &&& (v2 ^^^ (-1))) = 0) → ∀ x3 M3, Q2 x3 M3 → (x3 = 0) → pg_At S Λ YX11_mend (d + 1) 65 [(0, .ref 207), (1, .int v1), (2, .int v2), (3, .int v3), (4, .int v4)] [.int 1] M3 P) :
    pg_At S Λ YX11_mend (d + 1) 27 [(0, .ref 207), (1, .int v1), (2, .int v2), (3, .int v3), (4, .int v4)] [] M P := by
  refine pg_iload (pc := 27) (i := 4) (j := 4) (x := v4) dX11_mend_27 rfl ?_
  refine pg_iconst (pc := 29) (v := 1) dX11_mend_29 (by decide) ?_
  refine pg_aload_n (pc := 30) (i := 0) (j := 0) (x := 207) dX11_mend_30 rfl rfl ?_
  refine pg_callV (pc := 31) (As := []) (st := [.int 1, .int v4]) okX11_cloths lkX11_292 rfl h0.1 rfl (Nat.le_refl _) (Nat.le_of_ble_eq_true rfl) e0 dX11_mend_31 (fun r1 M1 w1 => ?_)
  obtain ⟨x1, rfl, w1⟩ := w1
  refine pg_ishl (pc := 34) dX11_mend_34 ?_
  refine pg_icmp_ge (pc := 35) (tgt := 103) dX11_mend_35 (by decide) (fun c0 => ?_) (fun c0 => ?_)
  · skip
    refine pg_iload_n (pc := 103) (i := 1) (j := 1) (x := v1) dX11_mend_103 rfl rfl ?_
    refine pg_if_ne (pc := 104) (tgt := 115) dX11_mend_104 (by decide) (fun c1 => ?_) (fun c1 => ?_)
    · skip
      refine pg_iload_n (pc := 115) (i := 3) (j := 3) (x := v3) dX11_mend_115 rfl rfl ?_
      exact pg_iret (pc := 116) rfl dX11_mend_116 (k0 x1 M1 w1 c0 c1)
    · skip
      refine pg_aload_n (pc := 107) (i := 0) (j := 0) (x := 207) dX11_mend_107 rfl rfl ?_
      refine pg_iload_n (pc := 108) (i := 3) (j := 3) (x := v3) dX11_mend_108 rfl rfl ?_
      refine pg_callV (pc := 109) (As := [.int v3]) (st := []) okX11_worthOf lkX11_385 rfl h0.1 rfl (Nat.le_refl _) (Nat.le_of_ble_eq_true rfl) (e1 x1 M1 w1 c0 c1) dX11_mend_109 (fun r2 M2 w2 => ?_)
      obtain ⟨x2, rfl, w2⟩ := w2
      refine pg_goto (pc := 112) (tgt := 116) dX11_mend_112 (by decide) ?_
      exact pg_iret (pc := 116) rfl dX11_mend_116 (k1 x1 M1 w1 c0 c1 x2 M2 w2)
  · skip
    refine pg_iload (pc := 38) (i := 4) (j := 4) (x := v4) dX11_mend_38 rfl ?_
    refine pg_iload_n (pc := 40) (i := 2) (j := 2) (x := v2) dX11_mend_40 rfl rfl ?_
    refine pg_iconst (pc := 41) (v := (-1)) dX11_mend_41 (by decide) ?_
    refine pg_ixor (pc := 42) dX11_mend_42 ?_
    refine pg_iand (pc := 43) dX11_mend_43 ?_
    refine pg_if_ne (pc := 44) (tgt := 64) dX11_mend_44 (by decide) (fun c1 => ?_) (fun c1 => ?_)
    · skip
      refine pg_iconst (pc := 64) (v := 0) dX11_mend_64 (by decide) ?_
      exact k2 x1 M1 w1 c0 c1
    · skip
      refine pg_aload_n (pc := 47) (i := 0) (j := 0) (x := 207) dX11_mend_47 rfl rfl ?_
      refine pg_iload_n (pc := 48) (i := 2) (j := 2) (x := v2) dX11_mend_48 rfl rfl ?_
      refine pg_iload (pc := 49) (i := 4) (j := 4) (x := v4) dX11_mend_49 rfl ?_
      refine pg_iconst (pc := 51) (v := (-1)) dX11_mend_51 (by decide) ?_
      refine pg_ixor (pc := 52) dX11_mend_52 ?_
      refine pg_iand (pc := 53) dX11_mend_53 ?_
      refine pg_callV (pc := 54) (As := [.int (v2 &&& (v4 ^^^ (-1)))]) (st := []) okX11_clashesIn lkX11_388 rfl h0.1 rfl (Nat.le_refl _) (Nat.le_of_ble_eq_true rfl) (e2 x1 M1 w1 c0 c1) dX11_mend_54 (fun r3 M3 w3 => ?_)
      obtain ⟨x3, rfl, w3⟩ := w3
      refine pg_if_ne (pc := 57) (tgt := 64) dX11_mend_57 (by decide) (fun c2 => ?_) (fun c2 => ?_)
      · skip
        refine pg_iconst (pc := 64) (v := 0) dX11_mend_64 (by decide) ?_
        exact k3 x1 M1 w1 c0 c1 x3 M3 w3 c2
      · skip
        refine pg_iconst (pc := 60) (v := 1) dX11_mend_60 (by decide) ?_
        refine pg_goto (pc := 61) (tgt := 65) dX11_mend_61 (by decide) ?_
        exact k4 x1 M1 w1 c0 c1 x3 M3 w3 c2
theorem sX11_mend_65 {v1 : Int32} {v2 : Int32} {v3 : Int32} {v4 : Int32} {s0 : Int32} {Q0 : Int32 → pg_M → Prop} {Q1 : Int32 → pg_M → Prop}
    (h0 : pg_isX11 Λ)
    (k0 : (s0 = 0) → pg_At S Λ YX11_mend (d + 1) 27 [(0, .ref 207), (1, .int v1), (2, .int v2), (3, .int v3), (4, .int (v4 + 1))] [] M P)
    (k1 : (¬ s0 = 0) → (v3 < 0) → pg_At S Λ YX11_mend (d + 1) 27 [(0, .ref 207), (1, .int v1), (2, .int v2), (3, .int v4), (4, .int (v4 + 1))] [] M P)
    (e0 : (¬ s0 = 0) → (¬ v3 < 0) → pg_Ev S Λ YX11_worthOf d [.ref 207, .int v4] M (fun r M' => ∃ x, r = some (.int x) ∧ Q0 x M'))
    (e1 : (¬ s0 = 0) → (¬ v3 < 0) → ∀ x1 M1, Q0 x1 M1 → pg_Ev S Λ YX11_worthOf d [.ref 207, .int v3] M1 (fun r M' => ∃ x, r = some (.int x) ∧ Q1 x M'))
    (k2 : (¬ s0 = 0) → (¬ v3 < 0) → ∀ x1 M1, Q0 x1 M1 → ∀ x2 M2, Q1 x2 M2 → (x2 ≤ x1) → pg_At S Λ YX11_mend (d + 1) 27 [(0, .ref 207), (1, .int v1), (2, .int v2), (3, .int v3), (4, .int (v4 + 1))] [] M2 P)
    (k3 : (¬ s0 = 0) → (¬ v3 < 0) → ∀ x1 M1, Q0 x1 M1 → ∀ x2 M2, Q1 x2 M2 → (¬ x2 ≤ x1) → pg_At S Λ YX11_mend (d + 1) 27 [(0, .ref 207), (1, .int v1), (2, .int v2), (3, .int v4), (4, .int (v4 + 1))] [] M2 P) :
    pg_At S Λ YX11_mend (d + 1) 65 [(0, .ref 207), (1, .int v1), (2, .int v2), (3, .int v3), (4, .int v4)] [.int s0] M P := by
  refine pg_istore (pc := 65) (i := 5) (ls' := [(5, .int s0), (0, .ref 207), (1, .int v1), (2, .int v2), (3, .int v3), (4, .int v4)]) dX11_mend_65 (by decide) rfl ?_
  refine pg_iload (pc := 67) (i := 5) (j := 0) (x := s0) dX11_mend_67 rfl ?_
  refine pg_if_eq (pc := 69) (tgt := 95) dX11_mend_69 (by decide) (fun c0 => ?_) (fun c0 => ?_)
  · skip
    refine pg_iload_n (pc := 95) (i := 3) (j := 4) (x := v3) dX11_mend_95 rfl rfl ?_
    refine pg_istore_n (pc := 96) (i := 3) (ls' := [(3, .int v3), (5, .int s0), (0, .ref 207), (1, .int v1), (2, .int v2), (4, .int v4)]) dX11_mend_96 rfl (by decide) rfl ?_
    refine pg_iinc (pc := 97) (i := 4) (j := 5) (x := v4) (v := v4 + 1) (ls' := [(4, .int (v4 + 1)), (3, .int v3), (5, .int s0), (0, .ref 207), (1, .int v1), (2, .int v2)]) dX11_mend_97 rfl rfl (by decide) rfl ?_
    refine pg_goto (pc := 100) (tgt := 27) dX11_mend_100 (by decide) ?_
    refine pg_drop (ks := [3, 4, 5, 1, 0]) (ls' := [(0, .ref 207), (1, .int v1), (2, .int v2), (3, .int v3), (4, .int (v4 + 1))]) rfl ?_
    exact k0 c0
  · skip
    refine pg_iload_n (pc := 72) (i := 3) (j := 4) (x := v3) dX11_mend_72 rfl rfl ?_
    refine pg_if_lt (pc := 73) (tgt := 90) dX11_mend_73 (by decide) (fun c1 => ?_) (fun c1 => ?_)
    · skip
      refine pg_iload (pc := 90) (i := 4) (j := 5) (x := v4) dX11_mend_90 rfl ?_
      refine pg_goto (pc := 92) (tgt := 96) dX11_mend_92 (by decide) ?_
      refine pg_istore_n (pc := 96) (i := 3) (ls' := [(3, .int v4), (5, .int s0), (0, .ref 207), (1, .int v1), (2, .int v2), (4, .int v4)]) dX11_mend_96 rfl (by decide) rfl ?_
      refine pg_iinc (pc := 97) (i := 4) (j := 5) (x := v4) (v := v4 + 1) (ls' := [(4, .int (v4 + 1)), (3, .int v4), (5, .int s0), (0, .ref 207), (1, .int v1), (2, .int v2)]) dX11_mend_97 rfl rfl (by decide) rfl ?_
      refine pg_goto (pc := 100) (tgt := 27) dX11_mend_100 (by decide) ?_
      refine pg_drop (ks := [3, 4, 5, 1, 0]) (ls' := [(0, .ref 207), (1, .int v1), (2, .int v2), (3, .int v4), (4, .int (v4 + 1))]) rfl ?_
      exact k1 c0 c1
    · skip
      refine pg_aload_n (pc := 76) (i := 0) (j := 1) (x := 207) dX11_mend_76 rfl rfl ?_
      refine pg_iload (pc := 77) (i := 4) (j := 5) (x := v4) dX11_mend_77 rfl ?_
      refine pg_callV (pc := 79) (As := [.int v4]) (st := []) okX11_worthOf lkX11_385 rfl h0.1 rfl (Nat.le_refl _) (Nat.le_of_ble_eq_true rfl) (e0 c0 c1) dX11_mend_79 (fun r1 M1 w1 => ?_)
      obtain ⟨x1, rfl, w1⟩ := w1
      refine pg_aload_n (pc := 82) (i := 0) (j := 1) (x := 207) dX11_mend_82 rfl rfl ?_
      refine pg_iload_n (pc := 83) (i := 3) (j := 4) (x := v3) dX11_mend_83 rfl rfl ?_
      refine pg_callV (pc := 84) (As := [.int v3]) (st := [.int x1]) okX11_worthOf lkX11_385 rfl h0.1 rfl (Nat.le_refl _) (Nat.le_of_ble_eq_true rfl) (e1 c0 c1 x1 M1 w1) dX11_mend_84 (fun r2 M2 w2 => ?_)
      obtain ⟨x2, rfl, w2⟩ := w2
      refine pg_icmp_ge (pc := 87) (tgt := 95) dX11_mend_87 (by decide) (fun c2 => ?_) (fun c2 => ?_)
      · skip
        refine pg_iload_n (pc := 95) (i := 3) (j := 4) (x := v3) dX11_mend_95 rfl rfl ?_
        refine pg_istore_n (pc := 96) (i := 3) (ls' := [(3, .int v3), (5, .int s0), (0, .ref 207), (1, .int v1), (2, .int v2), (4, .int v4)]) dX11_mend_96 rfl (by decide) rfl ?_
        refine pg_iinc (pc := 97) (i := 4) (j := 5) (x := v4) (v := v4 + 1) (ls' := [(4, .int (v4 + 1)), (3, .int v3), (5, .int s0), (0, .ref 207), (1, .int v1), (2, .int v2)]) dX11_mend_97 rfl rfl (by decide) rfl ?_
        refine pg_goto (pc := 100) (tgt := 27) dX11_mend_100 (by decide) ?_
        refine pg_drop (ks := [3, 4, 5, 1, 0]) (ls' := [(0, .ref 207), (1, .int v1), (2, .int v2), (3, .int v3), (4, .int (v4 + 1))]) rfl ?_
        exact k2 c0 c1 x1 M1 w1 x2 M2 w2 c2
      · skip
        refine pg_iload (pc := 90) (i := 4) (j := 5) (x := v4) dX11_mend_90 rfl ?_
        refine pg_goto (pc := 92) (tgt := 96) dX11_mend_92 (by decide) ?_
        refine pg_istore_n (pc := 96) (i := 3) (ls' := [(3, .int v4), (5, .int s0), (0, .ref 207), (1, .int v1), (2, .int v2), (4, .int v4)]) dX11_mend_96 rfl (by decide) rfl ?_
        refine pg_iinc (pc := 97) (i := 4) (j := 5) (x := v4) (v := v4 + 1) (ls' := [(4, .int (v4 + 1)), (3, .int v4), (5, .int s0), (0, .ref 207), (1, .int v1), (2, .int v2)]) dX11_mend_97 rfl rfl (by decide) rfl ?_
        refine pg_goto (pc := 100) (tgt := 27) dX11_mend_100 (by decide) ?_
        refine pg_drop (ks := [3, 4, 5, 1, 0]) (ls' := [(0, .ref 207), (1, .int v1), (2, .int v2), (3, .int v4), (4, .int (v4 + 1))]) rfl ?_
        exact k3 c0 c1 x1 M1 w1 x2 M2 w2 c2
theorem oX11_mend {d : Nat} {v1 : Int32} (h : pg_At S Λ YX11_mend d 0 [(0, .ref 207), (1, .int v1)] [] M P) : pg_Ev S Λ YX11_mend d [.ref 207, .int v1] M P := pg_Ev.of (by decide) (by first | decide | exact Nat.le_of_ble_eq_true rfl) h
theorem sX11_findHardest_0 {v1 : Int32} 
    (k0 : pg_At S Λ YX11_findHardest (d + 1) 2 [(0, .ref 207), (1, .int v1), (2, .int 0)] [] M P) :
    pg_At S Λ YX11_findHardest (d + 1) 0 [(0, .ref 207), (1, .int v1)] [] M P := by
  refine pg_iconst (pc := 0) (v := 0) dX11_findHardest_0 (by decide) ?_
  refine pg_istore_n (pc := 1) (i := 2) (ls' := [(2, .int 0), (0, .ref 207), (1, .int v1)]) dX11_findHardest_1 rfl (by decide) rfl ?_
  refine pg_drop (ks := [1, 2, 0]) (ls' := [(0, .ref 207), (1, .int v1), (2, .int 0)]) rfl ?_
  exact k0
theorem sX11_findHardest_2 {v1 : Int32} {v2 : Int32} {Q0 : Int32 → pg_M → Prop}
    (h0 : pg_isX11 Λ)
    (e0 : pg_Ev S Λ YX11_cloths d [.ref 207] M (fun r M' => ∃ x, r = some (.int x) ∧ Q0 x M'))
    (k0 : ∀ x1 M1, Q0 x1 M1 → (x1 ≤ v2) → P none M1)
    (b0 : ∀ x1 M1, Q0 x1 M1 → (¬ x1 ≤ v2) → vp_in v2 6)
    (b1 : ∀ x1 M1, Q0 x1 M1 → (¬ x1 ≤ v2) → vp_in (2 + v2) 1242)
    (k1 : ∀ x1 M1, Q0 x1 M1 → (¬ x1 ≤ v2) → pg_At S Λ YX11_findHardest (d + 1) 29 [(0, .ref 207), (1, .int v1), (2, .int v2), (3, .int ((pg_si M1 223 v2.toNatClampNeg 0).1 221 (2 + v2).toNatClampNeg)), (4, .int 0)] [] (pg_si M1 223 v2.toNatClampNeg 0) P) :
    pg_At S Λ YX11_findHardest (d + 1) 2 [(0, .ref 207), (1, .int v1), (2, .int v2)] [] M P := by
  refine pg_iload_n (pc := 2) (i := 2) (j := 2) (x := v2) dX11_findHardest_2 rfl rfl ?_
  refine pg_aload_n (pc := 3) (i := 0) (j := 0) (x := 207) dX11_findHardest_3 rfl rfl ?_
  refine pg_callV (pc := 4) (As := []) (st := [.int v2]) okX11_cloths lkX11_292 rfl h0.1 rfl (Nat.le_refl _) (Nat.le_of_ble_eq_true rfl) e0 dX11_findHardest_4 (fun r1 M1 w1 => ?_)
  obtain ⟨x1, rfl, w1⟩ := w1
  refine pg_icmp_ge (pc := 7) (tgt := 110) dX11_findHardest_7 (by decide) (fun c0 => ?_) (fun c0 => ?_)
  · skip
    exact pg_vret (pc := 110) rfl dX11_findHardest_110 (k0 x1 M1 w1 c0)
  · skip
    refine pg_aload_n (pc := 10) (i := 0) (j := 0) (x := 207) dX11_findHardest_10 rfl rfl ?_
    refine gfX11_120 (pc := 11) rfl h0 dX11_findHardest_11 ?_
    refine pg_iload_n (pc := 14) (i := 2) (j := 2) (x := v2) dX11_findHardest_14 rfl rfl ?_
    refine pg_iconst (pc := 15) (v := 0) dX11_findHardest_15 (by decide) ?_
    refine pg_iast (pc := 16) h0.2.2.2.2.2.2.2.2.2.2.2.2.2.2.2.2.1 (b0 x1 M1 w1 c0) dX11_findHardest_16 ?_
    refine pg_aload_n (pc := 17) (i := 0) (j := 0) (x := 207) dX11_findHardest_17 rfl rfl ?_
    refine gfX11_113 (pc := 18) rfl h0 dX11_findHardest_18 ?_
    refine pg_iconst (pc := 21) (v := 2) dX11_findHardest_21 (by decide) ?_
    refine pg_iload_n (pc := 22) (i := 2) (j := 2) (x := v2) dX11_findHardest_22 rfl rfl ?_
    refine pg_iadd (pc := 23) dX11_findHardest_23 ?_
    refine pg_iald (pc := 24) h0.2.2.2.2.2.2.2.2.2.2.2.2.2.2.1 (b1 x1 M1 w1 c0) dX11_findHardest_24 ?_
    refine pg_istore_n (pc := 25) (i := 3) (ls' := [(3, .int ((pg_si M1 223 v2.toNatClampNeg 0).1 221 (2 + v2).toNatClampNeg)), (0, .ref 207), (1, .int v1), (2, .int v2)]) dX11_findHardest_25 rfl (by decide) rfl ?_
    refine pg_iconst (pc := 26) (v := 0) dX11_findHardest_26 (by decide) ?_
    refine pg_istore (pc := 27) (i := 4) (ls' := [(4, .int 0), (3, .int ((pg_si M1 223 v2.toNatClampNeg 0).1 221 (2 + v2).toNatClampNeg)), (0, .ref 207), (1, .int v1), (2, .int v2)]) dX11_findHardest_27 (by decide) rfl ?_
    refine pg_drop (ks := [2, 3, 4, 1, 0]) (ls' := [(0, .ref 207), (1, .int v1), (2, .int v2), (3, .int ((pg_si M1 223 v2.toNatClampNeg 0).1 221 (2 + v2).toNatClampNeg)), (4, .int 0)]) rfl ?_
    exact k1 x1 M1 w1 c0
theorem sX11_findHardest_29 {v1 : Int32} {v2 : Int32} {v3 : Int32} {v4 : Int32} {Q0 : Int32 → pg_M → Prop} {Q1 : Int32 → pg_M → Prop} {Q2 : Int32 → pg_M → Prop} {Q3 : Int32 → pg_M → Prop}
    (h0 : pg_isX11 Λ)
    (k0 : (v1 ≤ v4) → pg_At S Λ YX11_findHardest (d + 1) 2 [(0, .ref 207), (1, .int v1), (2, .int (v2 + 1))] [] M P)
    (e0 : (¬ v1 ≤ v4) → pg_Ev S Λ YX11_windOf d [.ref 207, .int ((M.1 221 (0 : Int32).toNatClampNeg) + v4), .int 0] M (fun r M' => ∃ x, r = some (.int x) ∧ Q0 x M'))
    (e1 : (¬ v1 ≤ v4) → ∀ x1 M1, Q0 x1 M1 → pg_Ev S Λ YX11_pullOf d [.ref 207, .int v2, .int v3, .int x1] M1 (fun r M' => ∃ x, r = some (.int x) ∧ Q1 x M'))
    (b0 : (¬ v1 ≤ v4) → ∀ x1 M1, Q0 x1 M1 → ∀ x2 M2, Q1 x2 M2 → vp_in v2 6)
    (e2 : (¬ v1 ≤ v4) → ∀ x1 M1, Q0 x1 M1 → ∀ x2 M2, Q1 x2 M2 → (x2 ≤ (M2.1 223 v2.toNatClampNeg)) → pg_Ev S Λ YX11_driedOf d [.ref 207, .int v2, .int v3, .int x1] (pg_si M2 223 v2.toNatClampNeg (M2.1 223 v2.toNatClampNeg)) (fun r M' => ∃ x, r = some (.int x) ∧ Q2 x M'))
    (k1 : (¬ v1 ≤ v4) → ∀ x1 M1, Q0 x1 M1 → ∀ x2 M2, Q1 x2 M2 → (x2 ≤ (M2.1 223 v2.toNatClampNeg)) → ∀ x3 M3, Q2 x3 M3 → pg_At S Λ YX11_findHardest (d + 1) 29 [(0, .ref 207), (1, .int v1), (2, .int v2), (3, .int x3), (4, .int (v4 + 1))] [] M3 P)
    (e3 : (¬ v1 ≤ v4) → ∀ x1 M1, Q0 x1 M1 → ∀ x2 M2, Q1 x2 M2 → (¬ x2 ≤ (M2.1 223 v2.toNatClampNeg)) → pg_Ev S Λ YX11_driedOf d [.ref 207, .int v2, .int v3, .int x1] (pg_si M2 223 v2.toNatClampNeg x2) (fun r M' => ∃ x, r = some (.int x) ∧ Q3 x M'))
    (k2 : (¬ v1 ≤ v4) → ∀ x1 M1, Q0 x1 M1 → ∀ x2 M2, Q1 x2 M2 → (¬ x2 ≤ (M2.1 223 v2.toNatClampNeg)) → ∀ x4 M4, Q3 x4 M4 → pg_At S Λ YX11_findHardest (d + 1) 29 [(0, .ref 207), (1, .int v1), (2, .int v2), (3, .int x4), (4, .int (v4 + 1))] [] M4 P) :
    pg_At S Λ YX11_findHardest (d + 1) 29 [(0, .ref 207), (1, .int v1), (2, .int v2), (3, .int v3), (4, .int v4)] [] M P := by
  refine pg_iload (pc := 29) (i := 4) (j := 4) (x := v4) dX11_findHardest_29 rfl ?_
  refine pg_iload_n (pc := 31) (i := 1) (j := 1) (x := v1) dX11_findHardest_31 rfl rfl ?_
  refine pg_icmp_ge (pc := 32) (tgt := 104) dX11_findHardest_32 (by decide) (fun c0 => ?_) (fun c0 => ?_)
  · skip
    refine pg_iinc (pc := 104) (i := 2) (j := 2) (x := v2) (v := v2 + 1) (ls' := [(2, .int (v2 + 1)), (0, .ref 207), (1, .int v1), (3, .int v3), (4, .int v4)]) dX11_findHardest_104 rfl rfl (by decide) rfl ?_
    refine pg_goto (pc := 107) (tgt := 2) dX11_findHardest_107 (by decide) ?_
    refine pg_drop (ks := [1, 2, 0]) (ls' := [(0, .ref 207), (1, .int v1), (2, .int (v2 + 1))]) rfl ?_
    exact k0 c0
  · skip
    refine pg_aload_n (pc := 35) (i := 0) (j := 0) (x := 207) dX11_findHardest_35 rfl rfl ?_
    refine pg_aload_n (pc := 36) (i := 0) (j := 0) (x := 207) dX11_findHardest_36 rfl rfl ?_
    refine gfX11_113 (pc := 37) rfl h0 dX11_findHardest_37 ?_
    refine pg_iconst (pc := 40) (v := 0) dX11_findHardest_40 (by decide) ?_
    refine pg_iald (pc := 41) h0.2.2.2.2.2.2.2.2.2.2.2.2.2.2.1 (by unfold vp_in; decide) dX11_findHardest_41 ?_
    refine pg_iload (pc := 42) (i := 4) (j := 4) (x := v4) dX11_findHardest_42 rfl ?_
    refine pg_iadd (pc := 44) dX11_findHardest_44 ?_
    refine pg_iconst (pc := 45) (v := 0) dX11_findHardest_45 (by decide) ?_
    refine pg_callV (pc := 46) (As := [.int ((M.1 221 (0 : Int32).toNatClampNeg) + v4), .int 0]) (st := []) okX11_windOf lkX11_332 rfl h0.1 rfl (Nat.le_refl _) (Nat.le_of_ble_eq_true rfl) (e0 c0) dX11_findHardest_46 (fun r1 M1 w1 => ?_)
    obtain ⟨x1, rfl, w1⟩ := w1
    refine pg_istore (pc := 49) (i := 5) (ls' := [(5, .int x1), (0, .ref 207), (1, .int v1), (2, .int v2), (3, .int v3), (4, .int v4)]) dX11_findHardest_49 (by decide) rfl ?_
    refine pg_aload_n (pc := 51) (i := 0) (j := 1) (x := 207) dX11_findHardest_51 rfl rfl ?_
    refine pg_iload_n (pc := 52) (i := 2) (j := 3) (x := v2) dX11_findHardest_52 rfl rfl ?_
    refine pg_iload_n (pc := 53) (i := 3) (j := 4) (x := v3) dX11_findHardest_53 rfl rfl ?_
    refine pg_iload (pc := 54) (i := 5) (j := 0) (x := x1) dX11_findHardest_54 rfl ?_
    refine pg_callV (pc := 56) (As := [.int v2, .int v3, .int x1]) (st := []) okX11_pullOf lkX11_317 rfl h0.1 rfl (Nat.le_refl _) (Nat.le_of_ble_eq_true rfl) (e1 c0 x1 M1 w1) dX11_findHardest_56 (fun r2 M2 w2 => ?_)
    obtain ⟨x2, rfl, w2⟩ := w2
    refine pg_istore (pc := 59) (i := 6) (ls' := [(6, .int x2), (5, .int x1), (0, .ref 207), (1, .int v1), (2, .int v2), (3, .int v3), (4, .int v4)]) dX11_findHardest_59 (by decide) rfl ?_
    refine pg_aload_n (pc := 61) (i := 0) (j := 2) (x := 207) dX11_findHardest_61 rfl rfl ?_
    refine gfX11_120 (pc := 62) rfl h0 dX11_findHardest_62 ?_
    refine pg_iload_n (pc := 65) (i := 2) (j := 4) (x := v2) dX11_findHardest_65 rfl rfl ?_
    refine pg_iload (pc := 66) (i := 6) (j := 0) (x := x2) dX11_findHardest_66 rfl ?_
    refine pg_aload_n (pc := 68) (i := 0) (j := 2) (x := 207) dX11_findHardest_68 rfl rfl ?_
    refine gfX11_120 (pc := 69) rfl h0 dX11_findHardest_69 ?_
    refine pg_iload_n (pc := 72) (i := 2) (j := 4) (x := v2) dX11_findHardest_72 rfl rfl ?_
    refine pg_iald (pc := 73) h0.2.2.2.2.2.2.2.2.2.2.2.2.2.2.2.2.1 (b0 c0 x1 M1 w1 x2 M2 w2) dX11_findHardest_73 ?_
    refine pg_icmp_le (pc := 74) (tgt := 82) dX11_findHardest_74 (by decide) (fun c1 => ?_) (fun c1 => ?_)
    · skip
      refine pg_aload_n (pc := 82) (i := 0) (j := 2) (x := 207) dX11_findHardest_82 rfl rfl ?_
      refine gfX11_120 (pc := 83) rfl h0 dX11_findHardest_83 ?_
      refine pg_iload_n (pc := 86) (i := 2) (j := 4) (x := v2) dX11_findHardest_86 rfl rfl ?_
      refine pg_iald (pc := 87) h0.2.2.2.2.2.2.2.2.2.2.2.2.2.2.2.2.1 (b0 c0 x1 M1 w1 x2 M2 w2) dX11_findHardest_87 ?_
      refine pg_iast (pc := 88) h0.2.2.2.2.2.2.2.2.2.2.2.2.2.2.2.2.1 (b0 c0 x1 M1 w1 x2 M2 w2) dX11_findHardest_88 ?_
      refine pg_aload_n (pc := 89) (i := 0) (j := 2) (x := 207) dX11_findHardest_89 rfl rfl ?_
      refine pg_iload_n (pc := 90) (i := 2) (j := 4) (x := v2) dX11_findHardest_90 rfl rfl ?_
      refine pg_iload_n (pc := 91) (i := 3) (j := 5) (x := v3) dX11_findHardest_91 rfl rfl ?_
      refine pg_iload (pc := 92) (i := 5) (j := 1) (x := x1) dX11_findHardest_92 rfl ?_
      refine pg_callV (pc := 94) (As := [.int v2, .int v3, .int x1]) (st := []) okX11_driedOf lkX11_340 rfl h0.1 rfl (Nat.le_refl _) (Nat.le_of_ble_eq_true rfl) (e2 c0 x1 M1 w1 x2 M2 w2 c1) dX11_findHardest_94 (fun r3 M3 w3 => ?_)
      obtain ⟨x3, rfl, w3⟩ := w3
      refine pg_istore_n (pc := 97) (i := 3) (ls' := [(3, .int x3), (6, .int x2), (5, .int x1), (0, .ref 207), (1, .int v1), (2, .int v2), (4, .int v4)]) dX11_findHardest_97 rfl (by decide) rfl ?_
      refine pg_iinc (pc := 98) (i := 4) (j := 6) (x := v4) (v := v4 + 1) (ls' := [(4, .int (v4 + 1)), (3, .int x3), (6, .int x2), (5, .int x1), (0, .ref 207), (1, .int v1), (2, .int v2)]) dX11_findHardest_98 rfl rfl (by decide) rfl ?_
      refine pg_goto (pc := 101) (tgt := 29) dX11_findHardest_101 (by decide) ?_
      refine pg_drop (ks := [4, 5, 6, 1, 0]) (ls' := [(0, .ref 207), (1, .int v1), (2, .int v2), (3, .int x3), (4, .int (v4 + 1))]) rfl ?_
      exact k1 c0 x1 M1 w1 x2 M2 w2 c1 x3 M3 w3
    · skip
      refine pg_iload (pc := 77) (i := 6) (j := 0) (x := x2) dX11_findHardest_77 rfl ?_
      refine pg_goto (pc := 79) (tgt := 88) dX11_findHardest_79 (by decide) ?_
      refine pg_iast (pc := 88) h0.2.2.2.2.2.2.2.2.2.2.2.2.2.2.2.2.1 (b0 c0 x1 M1 w1 x2 M2 w2) dX11_findHardest_88 ?_
      refine pg_aload_n (pc := 89) (i := 0) (j := 2) (x := 207) dX11_findHardest_89 rfl rfl ?_
      refine pg_iload_n (pc := 90) (i := 2) (j := 4) (x := v2) dX11_findHardest_90 rfl rfl ?_
      refine pg_iload_n (pc := 91) (i := 3) (j := 5) (x := v3) dX11_findHardest_91 rfl rfl ?_
      refine pg_iload (pc := 92) (i := 5) (j := 1) (x := x1) dX11_findHardest_92 rfl ?_
      refine pg_callV (pc := 94) (As := [.int v2, .int v3, .int x1]) (st := []) okX11_driedOf lkX11_340 rfl h0.1 rfl (Nat.le_refl _) (Nat.le_of_ble_eq_true rfl) (e3 c0 x1 M1 w1 x2 M2 w2 c1) dX11_findHardest_94 (fun r4 M4 w4 => ?_)
      obtain ⟨x4, rfl, w4⟩ := w4
      refine pg_istore_n (pc := 97) (i := 3) (ls' := [(3, .int x4), (6, .int x2), (5, .int x1), (0, .ref 207), (1, .int v1), (2, .int v2), (4, .int v4)]) dX11_findHardest_97 rfl (by decide) rfl ?_
      refine pg_iinc (pc := 98) (i := 4) (j := 6) (x := v4) (v := v4 + 1) (ls' := [(4, .int (v4 + 1)), (3, .int x4), (6, .int x2), (5, .int x1), (0, .ref 207), (1, .int v1), (2, .int v2)]) dX11_findHardest_98 rfl rfl (by decide) rfl ?_
      refine pg_goto (pc := 101) (tgt := 29) dX11_findHardest_101 (by decide) ?_
      refine pg_drop (ks := [4, 5, 6, 1, 0]) (ls' := [(0, .ref 207), (1, .int v1), (2, .int v2), (3, .int x4), (4, .int (v4 + 1))]) rfl ?_
      exact k2 c0 x1 M1 w1 x2 M2 w2 c1 x4 M4 w4
theorem oX11_findHardest {d : Nat} {v1 : Int32} (h : pg_At S Λ YX11_findHardest d 0 [(0, .ref 207), (1, .int v1)] [] M P) : pg_Ev S Λ YX11_findHardest d [.ref 207, .int v1] M P := pg_Ev.of (by decide) (by first | decide | exact Nat.le_of_ble_eq_true rfl) h
theorem sX11_fills_0 {v1 : Int32} {v2 : Int32} {v3 : Int32} {v4 : Int32} {Q0 : Int32 → pg_M → Prop} {Q1 : Int32 → pg_M → Prop} {Q2 : Int32 → pg_M → Prop} {Q3 : Int32 → pg_M → Prop}
    (h0 : pg_isX11 Λ)
    (e0 : pg_Ev S Λ YX11_cloths d [.ref 207] M (fun r M' => ∃ x, r = some (.int x) ∧ Q0 x M'))
    (b0 : ∀ x1 M1, Q0 x1 M1 → (¬ v1 = x1) → vp_in (8 + v1) 1242)
    (k0 : ∀ x1 M1, Q0 x1 M1 → (¬ v1 = x1) → (3 ≤ (M1.1 221 (8 + v1).toNatClampNeg)) → pg_At S Λ YX11_fills (d + 1) 98 [(0, .ref 207), (1, .int v1), (2, .int v2), (3, .int v3), (4, .int v4), (5, .int 0), (6, .int 1)] [] M1 P)
    (e1 : ∀ x1 M1, Q0 x1 M1 → (¬ v1 = x1) → (¬ 3 ≤ (M1.1 221 (8 + v1).toNatClampNeg)) → pg_Ev S Λ YX11_clothOf d [.ref 207, .int v1, .int 1] M1 (fun r M' => ∃ x, r = some (.int x) ∧ Q1 x M'))
    (k1 : ∀ x1 M1, Q0 x1 M1 → (¬ v1 = x1) → (¬ 3 ≤ (M1.1 221 (8 + v1).toNatClampNeg)) → ∀ x2 M2, Q1 x2 M2 → (v3 < x2) → pg_At S Λ YX11_fills (d + 1) 98 [(0, .ref 207), (1, .int v1), (2, .int v2), (3, .int v3), (4, .int v4), (5, .int 0), (6, .int 1)] [] M2 P)
    (e2 : ∀ x1 M1, Q0 x1 M1 → (¬ v1 = x1) → (¬ 3 ≤ (M1.1 221 (8 + v1).toNatClampNeg)) → ∀ x2 M2, Q1 x2 M2 → (¬ v3 < x2) → pg_Ev S Λ YX11_bits d [.int v2] M2 (fun r M' => ∃ x, r = some (.int x) ∧ Q2 x M'))
    (e3 : ∀ x1 M1, Q0 x1 M1 → (¬ v1 = x1) → (¬ 3 ≤ (M1.1 221 (8 + v1).toNatClampNeg)) → ∀ x2 M2, Q1 x2 M2 → (¬ v3 < x2) → ∀ x3 M3, Q2 x3 M3 → pg_Ev S Λ YX11_needs d [.ref 207, .int v1] M3 (fun r M' => ∃ x, r = some (.int x) ∧ Q3 x M'))
    (k2 : ∀ x1 M1, Q0 x1 M1 → (¬ v1 = x1) → (¬ 3 ≤ (M1.1 221 (8 + v1).toNatClampNeg)) → ∀ x2 M2, Q1 x2 M2 → (¬ v3 < x2) → ∀ x3 M3, Q2 x3 M3 → ∀ x4 M4, Q3 x4 M4 → (x3 < x4) → pg_At S Λ YX11_fills (d + 1) 98 [(0, .ref 207), (1, .int v1), (2, .int v2), (3, .int v3), (4, .int v4), (5, .int 0), (6, .int 1)] [] M4 P)
    (k3 : ∀ x1 M1, Q0 x1 M1 → (¬ v1 = x1) → (¬ 3 ≤ (M1.1 221 (8 + v1).toNatClampNeg)) → ∀ x2 M2, Q1 x2 M2 → (¬ v3 < x2) → ∀ x3 M3, Q2 x3 M3 → ∀ x4 M4, Q3 x4 M4 → (¬ x3 < x4) → pg_At S Λ YX11_fills (d + 1) 98 [(0, .ref 207), (1, .int v1), (2, .int v2), (3, .int v3), (4, .int v4), (5, .int 1), (6, .int 1)] [] M4 P)
    (k4 : ∀ x1 M1, Q0 x1 M1 → (v1 = x1) → (v4 ≤ (M1.1 207 28)) → P none M1)
    (k5 : ∀ x1 M1, Q0 x1 M1 → (v1 = x1) → (¬ v4 ≤ (M1.1 207 28)) → pg_At S Λ YX11_fills (d + 1) 26 [(0, .ref 207), (1, .int v1), (5, .int 0)] [] (pg_si M1 207 28 v4) P) :
    pg_At S Λ YX11_fills (d + 1) 0 [(0, .ref 207), (1, .int v1), (2, .int v2), (3, .int v3), (4, .int v4)] [] M P := by
  refine pg_iload_n (pc := 0) (i := 1) (j := 1) (x := v1) dX11_fills_0 rfl rfl ?_
  refine pg_aload_n (pc := 1) (i := 0) (j := 0) (x := 207) dX11_fills_1 rfl rfl ?_
  refine pg_callV (pc := 2) (As := []) (st := [.int v1]) okX11_cloths lkX11_292 rfl h0.1 rfl (Nat.le_refl _) (Nat.le_of_ble_eq_true rfl) e0 dX11_fills_2 (fun r1 M1 w1 => ?_)
  obtain ⟨x1, rfl, w1⟩ := w1
  refine pg_icmp_ne (pc := 5) (tgt := 53) dX11_fills_5 (by decide) (fun c0 => ?_) (fun c0 => ?_)
  · skip
    refine pg_aload_n (pc := 53) (i := 0) (j := 0) (x := 207) dX11_fills_53 rfl rfl ?_
    refine gfX11_113 (pc := 54) rfl h0 dX11_fills_54 ?_
    refine pg_bipush (pc := 57) (v := 8) dX11_fills_57 (by decide) ?_
    refine pg_iload_n (pc := 59) (i := 1) (j := 1) (x := v1) dX11_fills_59 rfl rfl ?_
    refine pg_iadd (pc := 60) dX11_fills_60 ?_
    refine pg_iald (pc := 61) h0.2.2.2.2.2.2.2.2.2.2.2.2.2.2.1 (b0 x1 M1 w1 c0) dX11_fills_61 ?_
    refine pg_iconst (pc := 62) (v := 3) dX11_fills_62 (by decide) ?_
    refine pg_icmp_ge (pc := 63) (tgt := 92) dX11_fills_63 (by decide) (fun c1 => ?_) (fun c1 => ?_)
    · skip
      refine pg_iconst (pc := 92) (v := 0) dX11_fills_92 (by decide) ?_
      refine pg_istore (pc := 93) (i := 5) (ls' := [(5, .int 0), (0, .ref 207), (1, .int v1), (2, .int v2), (3, .int v3), (4, .int v4)]) dX11_fills_93 (by decide) rfl ?_
      refine pg_iconst (pc := 95) (v := 1) dX11_fills_95 (by decide) ?_
      refine pg_istore (pc := 96) (i := 6) (ls' := [(6, .int 1), (5, .int 0), (0, .ref 207), (1, .int v1), (2, .int v2), (3, .int v3), (4, .int v4)]) dX11_fills_96 (by decide) rfl ?_
      refine pg_drop (ks := [2, 3, 4, 5, 6, 1, 0]) (ls' := [(0, .ref 207), (1, .int v1), (2, .int v2), (3, .int v3), (4, .int v4), (5, .int 0), (6, .int 1)]) rfl ?_
      exact k0 x1 M1 w1 c0 c1
    · skip
      refine pg_aload_n (pc := 66) (i := 0) (j := 0) (x := 207) dX11_fills_66 rfl rfl ?_
      refine pg_iload_n (pc := 67) (i := 1) (j := 1) (x := v1) dX11_fills_67 rfl rfl ?_
      refine pg_iconst (pc := 68) (v := 1) dX11_fills_68 (by decide) ?_
      refine pg_callV (pc := 69) (As := [.int v1, .int 1]) (st := []) okX11_clothOf lkX11_295 rfl h0.1 rfl (Nat.le_refl _) (Nat.le_of_ble_eq_true rfl) (e1 x1 M1 w1 c0 c1) dX11_fills_69 (fun r2 M2 w2 => ?_)
      obtain ⟨x2, rfl, w2⟩ := w2
      refine pg_iload_n (pc := 72) (i := 3) (j := 3) (x := v3) dX11_fills_72 rfl rfl ?_
      refine pg_icmp_gt (pc := 73) (tgt := 92) dX11_fills_73 (by decide) (fun c2 => ?_) (fun c2 => ?_)
      · skip
        refine pg_iconst (pc := 92) (v := 0) dX11_fills_92 (by decide) ?_
        refine pg_istore (pc := 93) (i := 5) (ls' := [(5, .int 0), (0, .ref 207), (1, .int v1), (2, .int v2), (3, .int v3), (4, .int v4)]) dX11_fills_93 (by decide) rfl ?_
        refine pg_iconst (pc := 95) (v := 1) dX11_fills_95 (by decide) ?_
        refine pg_istore (pc := 96) (i := 6) (ls' := [(6, .int 1), (5, .int 0), (0, .ref 207), (1, .int v1), (2, .int v2), (3, .int v3), (4, .int v4)]) dX11_fills_96 (by decide) rfl ?_
        refine pg_drop (ks := [2, 3, 4, 5, 6, 1, 0]) (ls' := [(0, .ref 207), (1, .int v1), (2, .int v2), (3, .int v3), (4, .int v4), (5, .int 0), (6, .int 1)]) rfl ?_
        exact k1 x1 M1 w1 c0 c1 x2 M2 w2 c2
      · skip
        refine pg_iload_n (pc := 76) (i := 2) (j := 2) (x := v2) dX11_fills_76 rfl rfl ?_
        refine pg_callS (pc := 77) (As := [.int v2]) (st := []) okX11_bits lkX11_298 rfl (Nat.le_refl _) (Nat.le_of_ble_eq_true rfl) (e2 x1 M1 w1 c0 c1 x2 M2 w2 c2) dX11_fills_77 (fun r3 M3 w3 => ?_)
        obtain ⟨x3, rfl, w3⟩ := w3
        refine pg_aload_n (pc := 80) (i := 0) (j := 0) (x := 207) dX11_fills_80 rfl rfl ?_
        refine pg_iload_n (pc := 81) (i := 1) (j := 1) (x := v1) dX11_fills_81 rfl rfl ?_
        refine pg_callV (pc := 82) (As := [.int v1]) (st := [.int x3]) okX11_needs lkX11_301 rfl h0.1 rfl (Nat.le_refl _) (Nat.le_of_ble_eq_true rfl) (e3 x1 M1 w1 c0 c1 x2 M2 w2 c2 x3 M3 w3) dX11_fills_82 (fun r4 M4 w4 => ?_)
        obtain ⟨x4, rfl, w4⟩ := w4
        refine pg_icmp_lt (pc := 85) (tgt := 92) dX11_fills_85 (by decide) (fun c3 => ?_) (fun c3 => ?_)
        · skip
          refine pg_iconst (pc := 92) (v := 0) dX11_fills_92 (by decide) ?_
          refine pg_istore (pc := 93) (i := 5) (ls' := [(5, .int 0), (0, .ref 207), (1, .int v1), (2, .int v2), (3, .int v3), (4, .int v4)]) dX11_fills_93 (by decide) rfl ?_
          refine pg_iconst (pc := 95) (v := 1) dX11_fills_95 (by decide) ?_
          refine pg_istore (pc := 96) (i := 6) (ls' := [(6, .int 1), (5, .int 0), (0, .ref 207), (1, .int v1), (2, .int v2), (3, .int v3), (4, .int v4)]) dX11_fills_96 (by decide) rfl ?_
          refine pg_drop (ks := [2, 3, 4, 5, 6, 1, 0]) (ls' := [(0, .ref 207), (1, .int v1), (2, .int v2), (3, .int v3), (4, .int v4), (5, .int 0), (6, .int 1)]) rfl ?_
          exact k2 x1 M1 w1 c0 c1 x2 M2 w2 c2 x3 M3 w3 x4 M4 w4 c3
        · skip
          refine pg_iconst (pc := 88) (v := 1) dX11_fills_88 (by decide) ?_
          refine pg_goto (pc := 89) (tgt := 93) dX11_fills_89 (by decide) ?_
          refine pg_istore (pc := 93) (i := 5) (ls' := [(5, .int 1), (0, .ref 207), (1, .int v1), (2, .int v2), (3, .int v3), (4, .int v4)]) dX11_fills_93 (by decide) rfl ?_
          refine pg_iconst (pc := 95) (v := 1) dX11_fills_95 (by decide) ?_
          refine pg_istore (pc := 96) (i := 6) (ls' := [(6, .int 1), (5, .int 1), (0, .ref 207), (1, .int v1), (2, .int v2), (3, .int v3), (4, .int v4)]) dX11_fills_96 (by decide) rfl ?_
          refine pg_drop (ks := [2, 3, 4, 5, 6, 1, 0]) (ls' := [(0, .ref 207), (1, .int v1), (2, .int v2), (3, .int v3), (4, .int v4), (5, .int 1), (6, .int 1)]) rfl ?_
          exact k3 x1 M1 w1 c0 c1 x2 M2 w2 c2 x3 M3 w3 x4 M4 w4 c3
  · skip
    refine pg_iload (pc := 8) (i := 4) (j := 4) (x := v4) dX11_fills_8 rfl ?_
    refine pg_aload_n (pc := 10) (i := 0) (j := 0) (x := 207) dX11_fills_10 rfl rfl ?_
    refine gfX11_391 (pc := 11) rfl h0 dX11_fills_11 ?_
    refine pg_icmp_le (pc := 14) (tgt := 52) dX11_fills_14 (by decide) (fun c1 => ?_) (fun c1 => ?_)
    · skip
      exact pg_vret (pc := 52) rfl dX11_fills_52 (k4 x1 M1 w1 c0 c1)
    · skip
      refine pg_aload_n (pc := 17) (i := 0) (j := 0) (x := 207) dX11_fills_17 rfl rfl ?_
      refine pg_iload (pc := 18) (i := 4) (j := 4) (x := v4) dX11_fills_18 rfl ?_
      refine pfX11_391 (pc := 20) rfl h0 dX11_fills_20 ?_
      refine pg_iconst (pc := 23) (v := 0) dX11_fills_23 (by decide) ?_
      refine pg_istore (pc := 24) (i := 5) (ls' := [(5, .int 0), (0, .ref 207), (1, .int v1), (2, .int v2), (3, .int v3), (4, .int v4)]) dX11_fills_24 (by decide) rfl ?_
      refine pg_drop (ks := [1, 2, 0]) (ls' := [(0, .ref 207), (1, .int v1), (5, .int 0)]) rfl ?_
      exact k5 x1 M1 w1 c0 c1
theorem sX11_fills_98 {v1 : Int32} {v2 : Int32} {v3 : Int32} {v4 : Int32} {v5 : Int32} {v6 : Int32} {Q0 : pg_M → Prop} {Q1 : pg_M → Prop} {Q2 : Int32 → pg_M → Prop} {Q3 : Int32 → pg_M → Prop} {Q4 : Int32 → pg_M → Prop} {Q5 : Int32 → pg_M → Prop} {Q6 : Int32 → pg_M → Prop} {Q7 : pg_M → Prop}
    (h0 : pg_isX11 Λ)
    (b0 : ((M.1 207 29) < v6) → vp_in v1 6)
    (e0 : ((M.1 207 29) < v6) → pg_Ev S Λ YX11_fills d [.ref 207, .int (v1 + 1), .int v2, .int v3, .int v4] (pg_si M 224 v1.toNatClampNeg 0) (fun r M' => r = none ∧ Q0 M'))
    (k0 : ((M.1 207 29) < v6) → ∀ M1, Q0 M1 → P none M1)
    (b1 : (¬ (M.1 207 29) < v6) → (v5 = 0) → vp_in v1 6)
    (e1 : (¬ (M.1 207 29) < v6) → (v5 = 0) → pg_Ev S Λ YX11_fills d [.ref 207, .int (v1 + 1), .int v2, .int v3, .int v4] (pg_si M 224 v1.toNatClampNeg 0) (fun r M' => r = none ∧ Q1 M'))
    (k1 : (¬ (M.1 207 29) < v6) → (v5 = 0) → ∀ M2, Q1 M2 → P none M2)
    (k2 : (¬ (M.1 207 29) < v6) → (¬ v5 = 0) → (¬ (v6 &&& (v2 ^^^ (-1))) = 0) → pg_At S Λ YX11_fills (d + 1) 98 [(0, .ref 207), (1, .int v1), (2, .int v2), (3, .int v3), (4, .int v4), (5, .int v5), (6, .int (v6 + 1))] [] M P)
    (e2 : (¬ (M.1 207 29) < v6) → (¬ v5 = 0) → ((v6 &&& (v2 ^^^ (-1))) = 0) → pg_Ev S Λ YX11_bits d [.int v6] M (fun r M' => ∃ x, r = some (.int x) ∧ Q2 x M'))
    (e3 : (¬ (M.1 207 29) < v6) → (¬ v5 = 0) → ((v6 &&& (v2 ^^^ (-1))) = 0) → ∀ x3 M3, Q2 x3 M3 → pg_Ev S Λ YX11_needs d [.ref 207, .int v1] M3 (fun r M' => ∃ x, r = some (.int x) ∧ Q3 x M'))
    (k3 : (¬ (M.1 207 29) < v6) → (¬ v5 = 0) → ((v6 &&& (v2 ^^^ (-1))) = 0) → ∀ x3 M3, Q2 x3 M3 → ∀ x4 M4, Q3 x4 M4 → (¬ x3 = x4) → pg_At S Λ YX11_fills (d + 1) 98 [(0, .ref 207), (1, .int v1), (2, .int v2), (3, .int v3), (4, .int v4), (5, .int v5), (6, .int (v6 + 1))] [] M4 P)
    (e4 : (¬ (M.1 207 29) < v6) → (¬ v5 = 0) → ((v6 &&& (v2 ^^^ (-1))) = 0) → ∀ x3 M3, Q2 x3 M3 → ∀ x4 M4, Q3 x4 M4 → (x3 = x4) → pg_Ev S Λ YX11_gripsOf d [.ref 207, .int 0, .int v6] M4 (fun r M' => ∃ x, r = some (.int x) ∧ Q4 x M'))
    (b2 : (¬ (M.1 207 29) < v6) → (¬ v5 = 0) → ((v6 &&& (v2 ^^^ (-1))) = 0) → ∀ x3 M3, Q2 x3 M3 → ∀ x4 M4, Q3 x4 M4 → (x3 = x4) → ∀ x5 M5, Q4 x5 M5 → vp_in v1 6)
    (k4 : (¬ (M.1 207 29) < v6) → (¬ v5 = 0) → ((v6 &&& (v2 ^^^ (-1))) = 0) → ∀ x3 M3, Q2 x3 M3 → ∀ x4 M4, Q3 x4 M4 → (x3 = x4) → ∀ x5 M5, Q4 x5 M5 → (x5 < (M5.1 223 v1.toNatClampNeg)) → pg_At S Λ YX11_fills (d + 1) 98 [(0, .ref 207), (1, .int v1), (2, .int v2), (3, .int v3), (4, .int v4), (5, .int v5), (6, .int (v6 + 1))] [] M5 P)
    (e5 : (¬ (M.1 207 29) < v6) → (¬ v5 = 0) → ((v6 &&& (v2 ^^^ (-1))) = 0) → ∀ x3 M3, Q2 x3 M3 → ∀ x4 M4, Q3 x4 M4 → (x3 = x4) → ∀ x5 M5, Q4 x5 M5 → (¬ x5 < (M5.1 223 v1.toNatClampNeg)) → pg_Ev S Λ YX11_clothOf d [.ref 207, .int v1, .int 1] (pg_si M5 224 v1.toNatClampNeg v6) (fun r M' => ∃ x, r = some (.int x) ∧ Q5 x M'))
    (e6 : (¬ (M.1 207 29) < v6) → (¬ v5 = 0) → ((v6 &&& (v2 ^^^ (-1))) = 0) → ∀ x3 M3, Q2 x3 M3 → ∀ x4 M4, Q3 x4 M4 → (x3 = x4) → ∀ x5 M5, Q4 x5 M5 → (¬ x5 < (M5.1 223 v1.toNatClampNeg)) → ∀ x6 M6, Q5 x6 M6 → pg_Ev S Λ YX11_clothOf d [.ref 207, .int v1, .int 3] M6 (fun r M' => ∃ x, r = some (.int x) ∧ Q6 x M'))
    (e7 : (¬ (M.1 207 29) < v6) → (¬ v5 = 0) → ((v6 &&& (v2 ^^^ (-1))) = 0) → ∀ x3 M3, Q2 x3 M3 → ∀ x4 M4, Q3 x4 M4 → (x3 = x4) → ∀ x5 M5, Q4 x5 M5 → (¬ x5 < (M5.1 223 v1.toNatClampNeg)) → ∀ x6 M6, Q5 x6 M6 → ∀ x7 M7, Q6 x7 M7 → pg_Ev S Λ YX11_fills d [.ref 207, .int (v1 + 1), .int (v2 &&& (v6 ^^^ (-1))), .int (v3 - x6), .int (v4 + x7)] M7 (fun r M' => r = none ∧ Q7 M'))
    (k5 : (¬ (M.1 207 29) < v6) → (¬ v5 = 0) → ((v6 &&& (v2 ^^^ (-1))) = 0) → ∀ x3 M3, Q2 x3 M3 → ∀ x4 M4, Q3 x4 M4 → (x3 = x4) → ∀ x5 M5, Q4 x5 M5 → (¬ x5 < (M5.1 223 v1.toNatClampNeg)) → ∀ x6 M6, Q5 x6 M6 → ∀ x7 M7, Q6 x7 M7 → ∀ M8, Q7 M8 → pg_At S Λ YX11_fills (d + 1) 98 [(0, .ref 207), (1, .int v1), (2, .int v2), (3, .int v3), (4, .int v4), (5, .int v5), (6, .int (v6 + 1))] [] M8 P) :
    pg_At S Λ YX11_fills (d + 1) 98 [(0, .ref 207), (1, .int v1), (2, .int v2), (3, .int v3), (4, .int v4), (5, .int v5), (6, .int v6)] [] M P := by
  refine pg_iload (pc := 98) (i := 6) (j := 6) (x := v6) dX11_fills_98 rfl ?_
  refine pg_aload_n (pc := 100) (i := 0) (j := 0) (x := 207) dX11_fills_100 rfl rfl ?_
  refine gfX11_394 (pc := 101) rfl h0 dX11_fills_101 ?_
  refine pg_icmp_gt (pc := 104) (tgt := 194) dX11_fills_104 (by decide) (fun c0 => ?_) (fun c0 => ?_)
  · skip
    refine pg_aload_n (pc := 194) (i := 0) (j := 0) (x := 207) dX11_fills_194 rfl rfl ?_
    refine gfX11_123 (pc := 195) rfl h0 dX11_fills_195 ?_
    refine pg_iload_n (pc := 198) (i := 1) (j := 1) (x := v1) dX11_fills_198 rfl rfl ?_
    refine pg_iconst (pc := 199) (v := 0) dX11_fills_199 (by decide) ?_
    refine pg_iast (pc := 200) h0.2.2.2.2.2.2.2.2.2.2.2.2.2.2.2.2.2.1 (b0 c0) dX11_fills_200 ?_
    refine pg_aload_n (pc := 201) (i := 0) (j := 0) (x := 207) dX11_fills_201 rfl rfl ?_
    refine pg_iload_n (pc := 202) (i := 1) (j := 1) (x := v1) dX11_fills_202 rfl rfl ?_
    refine pg_iconst (pc := 203) (v := 1) dX11_fills_203 (by decide) ?_
    refine pg_iadd (pc := 204) dX11_fills_204 ?_
    refine pg_iload_n (pc := 205) (i := 2) (j := 2) (x := v2) dX11_fills_205 rfl rfl ?_
    refine pg_iload_n (pc := 206) (i := 3) (j := 3) (x := v3) dX11_fills_206 rfl rfl ?_
    refine pg_iload (pc := 207) (i := 4) (j := 4) (x := v4) dX11_fills_207 rfl ?_
    refine pg_callV (pc := 209) (As := [.int (v1 + 1), .int v2, .int v3, .int v4]) (st := []) okX11_fills lkX11_397 rfl h0.1 rfl (Nat.le_refl _) (Nat.le_of_ble_eq_true rfl) (e0 c0) dX11_fills_209 (fun r1 M1 w1 => ?_)
    obtain ⟨rfl, w1⟩ := w1
    exact pg_vret (pc := 212) rfl dX11_fills_212 (k0 c0 M1 w1)
  · skip
    refine pg_iload (pc := 107) (i := 5) (j := 5) (x := v5) dX11_fills_107 rfl ?_
    refine pg_if_eq (pc := 109) (tgt := 194) dX11_fills_109 (by decide) (fun c1 => ?_) (fun c1 => ?_)
    · skip
      refine pg_aload_n (pc := 194) (i := 0) (j := 0) (x := 207) dX11_fills_194 rfl rfl ?_
      refine gfX11_123 (pc := 195) rfl h0 dX11_fills_195 ?_
      refine pg_iload_n (pc := 198) (i := 1) (j := 1) (x := v1) dX11_fills_198 rfl rfl ?_
      refine pg_iconst (pc := 199) (v := 0) dX11_fills_199 (by decide) ?_
      refine pg_iast (pc := 200) h0.2.2.2.2.2.2.2.2.2.2.2.2.2.2.2.2.2.1 (b1 c0 c1) dX11_fills_200 ?_
      refine pg_aload_n (pc := 201) (i := 0) (j := 0) (x := 207) dX11_fills_201 rfl rfl ?_
      refine pg_iload_n (pc := 202) (i := 1) (j := 1) (x := v1) dX11_fills_202 rfl rfl ?_
      refine pg_iconst (pc := 203) (v := 1) dX11_fills_203 (by decide) ?_
      refine pg_iadd (pc := 204) dX11_fills_204 ?_
      refine pg_iload_n (pc := 205) (i := 2) (j := 2) (x := v2) dX11_fills_205 rfl rfl ?_
      refine pg_iload_n (pc := 206) (i := 3) (j := 3) (x := v3) dX11_fills_206 rfl rfl ?_
      refine pg_iload (pc := 207) (i := 4) (j := 4) (x := v4) dX11_fills_207 rfl ?_
      refine pg_callV (pc := 209) (As := [.int (v1 + 1), .int v2, .int v3, .int v4]) (st := []) okX11_fills lkX11_397 rfl h0.1 rfl (Nat.le_refl _) (Nat.le_of_ble_eq_true rfl) (e1 c0 c1) dX11_fills_209 (fun r2 M2 w2 => ?_)
      obtain ⟨rfl, w2⟩ := w2
      exact pg_vret (pc := 212) rfl dX11_fills_212 (k1 c0 c1 M2 w2)
    · skip
      refine pg_iload (pc := 112) (i := 6) (j := 6) (x := v6) dX11_fills_112 rfl ?_
      refine pg_iload_n (pc := 114) (i := 2) (j := 2) (x := v2) dX11_fills_114 rfl rfl ?_
      refine pg_iconst (pc := 115) (v := (-1)) dX11_fills_115 (by decide) ?_
      refine pg_ixor (pc := 116) dX11_fills_116 ?_
      refine pg_iand (pc := 117) dX11_fills_117 ?_
      refine pg_if_ne (pc := 118) (tgt := 188) dX11_fills_118 (by decide) (fun c2 => ?_) (fun c2 => ?_)
      · skip
        refine pg_iinc (pc := 188) (i := 6) (j := 6) (x := v6) (v := v6 + 1) (ls' := [(6, .int (v6 + 1)), (0, .ref 207), (1, .int v1), (2, .int v2), (3, .int v3), (4, .int v4), (5, .int v5)]) dX11_fills_188 rfl rfl (by decide) rfl ?_
        refine pg_goto (pc := 191) (tgt := 98) dX11_fills_191 (by decide) ?_
        refine pg_drop (ks := [1, 2, 3, 4, 5, 6, 0]) (ls' := [(0, .ref 207), (1, .int v1), (2, .int v2), (3, .int v3), (4, .int v4), (5, .int v5), (6, .int (v6 + 1))]) rfl ?_
        exact k2 c0 c1 c2
      · skip
        refine pg_iload (pc := 121) (i := 6) (j := 6) (x := v6) dX11_fills_121 rfl ?_
        refine pg_callS (pc := 123) (As := [.int v6]) (st := []) okX11_bits lkX11_298 rfl (Nat.le_refl _) (Nat.le_of_ble_eq_true rfl) (e2 c0 c1 c2) dX11_fills_123 (fun r3 M3 w3 => ?_)
        obtain ⟨x3, rfl, w3⟩ := w3
        refine pg_aload_n (pc := 126) (i := 0) (j := 0) (x := 207) dX11_fills_126 rfl rfl ?_
        refine pg_iload_n (pc := 127) (i := 1) (j := 1) (x := v1) dX11_fills_127 rfl rfl ?_
        refine pg_callV (pc := 128) (As := [.int v1]) (st := [.int x3]) okX11_needs lkX11_301 rfl h0.1 rfl (Nat.le_refl _) (Nat.le_of_ble_eq_true rfl) (e3 c0 c1 c2 x3 M3 w3) dX11_fills_128 (fun r4 M4 w4 => ?_)
        obtain ⟨x4, rfl, w4⟩ := w4
        refine pg_icmp_ne (pc := 131) (tgt := 188) dX11_fills_131 (by decide) (fun c3 => ?_) (fun c3 => ?_)
        · skip
          refine pg_iinc (pc := 188) (i := 6) (j := 6) (x := v6) (v := v6 + 1) (ls' := [(6, .int (v6 + 1)), (0, .ref 207), (1, .int v1), (2, .int v2), (3, .int v3), (4, .int v4), (5, .int v5)]) dX11_fills_188 rfl rfl (by decide) rfl ?_
          refine pg_goto (pc := 191) (tgt := 98) dX11_fills_191 (by decide) ?_
          refine pg_drop (ks := [1, 2, 3, 4, 5, 6, 0]) (ls' := [(0, .ref 207), (1, .int v1), (2, .int v2), (3, .int v3), (4, .int v4), (5, .int v5), (6, .int (v6 + 1))]) rfl ?_
          exact k3 c0 c1 c2 x3 M3 w3 x4 M4 w4 c3
        · skip
          refine pg_aload_n (pc := 134) (i := 0) (j := 0) (x := 207) dX11_fills_134 rfl rfl ?_
          refine pg_iconst (pc := 135) (v := 0) dX11_fills_135 (by decide) ?_
          refine pg_iload (pc := 136) (i := 6) (j := 6) (x := v6) dX11_fills_136 rfl ?_
          refine pg_callV (pc := 138) (As := [.int 0, .int v6]) (st := []) okX11_gripsOf lkX11_320 rfl h0.1 rfl (Nat.le_refl _) (Nat.le_of_ble_eq_true rfl) (e4 c0 c1 c2 x3 M3 w3 x4 M4 w4 c3) dX11_fills_138 (fun r5 M5 w5 => ?_)
          obtain ⟨x5, rfl, w5⟩ := w5
          refine pg_aload_n (pc := 141) (i := 0) (j := 0) (x := 207) dX11_fills_141 rfl rfl ?_
          refine gfX11_120 (pc := 142) rfl h0 dX11_fills_142 ?_
          refine pg_iload_n (pc := 145) (i := 1) (j := 1) (x := v1) dX11_fills_145 rfl rfl ?_
          refine pg_iald (pc := 146) h0.2.2.2.2.2.2.2.2.2.2.2.2.2.2.2.2.1 (b2 c0 c1 c2 x3 M3 w3 x4 M4 w4 c3 x5 M5 w5) dX11_fills_146 ?_
          refine pg_icmp_lt (pc := 147) (tgt := 188) dX11_fills_147 (by decide) (fun c4 => ?_) (fun c4 => ?_)
          · skip
            refine pg_iinc (pc := 188) (i := 6) (j := 6) (x := v6) (v := v6 + 1) (ls' := [(6, .int (v6 + 1)), (0, .ref 207), (1, .int v1), (2, .int v2), (3, .int v3), (4, .int v4), (5, .int v5)]) dX11_fills_188 rfl rfl (by decide) rfl ?_
            refine pg_goto (pc := 191) (tgt := 98) dX11_fills_191 (by decide) ?_
            refine pg_drop (ks := [1, 2, 3, 4, 5, 6, 0]) (ls' := [(0, .ref 207), (1, .int v1), (2, .int v2), (3, .int v3), (4, .int v4), (5, .int v5), (6, .int (v6 + 1))]) rfl ?_
            exact k4 c0 c1 c2 x3 M3 w3 x4 M4 w4 c3 x5 M5 w5 c4
          · skip
            refine pg_aload_n (pc := 150) (i := 0) (j := 0) (x := 207) dX11_fills_150 rfl rfl ?_
            refine gfX11_123 (pc := 151) rfl h0 dX11_fills_151 ?_
            refine pg_iload_n (pc := 154) (i := 1) (j := 1) (x := v1) dX11_fills_154 rfl rfl ?_
            refine pg_iload (pc := 155) (i := 6) (j := 6) (x := v6) dX11_fills_155 rfl ?_
            refine pg_iast (pc := 157) h0.2.2.2.2.2.2.2.2.2.2.2.2.2.2.2.2.2.1 (b2 c0 c1 c2 x3 M3 w3 x4 M4 w4 c3 x5 M5 w5) dX11_fills_157 ?_
            refine pg_aload_n (pc := 158) (i := 0) (j := 0) (x := 207) dX11_fills_158 rfl rfl ?_
            refine pg_iload_n (pc := 159) (i := 1) (j := 1) (x := v1) dX11_fills_159 rfl rfl ?_
            refine pg_iconst (pc := 160) (v := 1) dX11_fills_160 (by decide) ?_
            refine pg_iadd (pc := 161) dX11_fills_161 ?_
            refine pg_iload_n (pc := 162) (i := 2) (j := 2) (x := v2) dX11_fills_162 rfl rfl ?_
            refine pg_iload (pc := 163) (i := 6) (j := 6) (x := v6) dX11_fills_163 rfl ?_
            refine pg_iconst (pc := 165) (v := (-1)) dX11_fills_165 (by decide) ?_
            refine pg_ixor (pc := 166) dX11_fills_166 ?_
            refine pg_iand (pc := 167) dX11_fills_167 ?_
            refine pg_iload_n (pc := 168) (i := 3) (j := 3) (x := v3) dX11_fills_168 rfl rfl ?_
            refine pg_aload_n (pc := 169) (i := 0) (j := 0) (x := 207) dX11_fills_169 rfl rfl ?_
            refine pg_iload_n (pc := 170) (i := 1) (j := 1) (x := v1) dX11_fills_170 rfl rfl ?_
            refine pg_iconst (pc := 171) (v := 1) dX11_fills_171 (by decide) ?_
            refine pg_callV (pc := 172) (As := [.int v1, .int 1]) (st := [.int v3, .int (v2 &&& (v6 ^^^ (-1))), .int (v1 + 1), .ref 207]) okX11_clothOf lkX11_295 rfl h0.1 rfl (Nat.le_refl _) (Nat.le_of_ble_eq_true rfl) (e5 c0 c1 c2 x3 M3 w3 x4 M4 w4 c3 x5 M5 w5 c4) dX11_fills_172 (fun r6 M6 w6 => ?_)
            obtain ⟨x6, rfl, w6⟩ := w6
            refine pg_isub (pc := 175) dX11_fills_175 ?_
            refine pg_iload (pc := 176) (i := 4) (j := 4) (x := v4) dX11_fills_176 rfl ?_
            refine pg_aload_n (pc := 178) (i := 0) (j := 0) (x := 207) dX11_fills_178 rfl rfl ?_
            refine pg_iload_n (pc := 179) (i := 1) (j := 1) (x := v1) dX11_fills_179 rfl rfl ?_
            refine pg_iconst (pc := 180) (v := 3) dX11_fills_180 (by decide) ?_
            refine pg_callV (pc := 181) (As := [.int v1, .int 3]) (st := [.int v4, .int (v3 - x6), .int (v2 &&& (v6 ^^^ (-1))), .int (v1 + 1), .ref 207]) okX11_clothOf lkX11_295 rfl h0.1 rfl (Nat.le_refl _) (Nat.le_of_ble_eq_true rfl) (e6 c0 c1 c2 x3 M3 w3 x4 M4 w4 c3 x5 M5 w5 c4 x6 M6 w6) dX11_fills_181 (fun r7 M7 w7 => ?_)
            obtain ⟨x7, rfl, w7⟩ := w7
            refine pg_iadd (pc := 184) dX11_fills_184 ?_
            refine pg_callV (pc := 185) (As := [.int (v1 + 1), .int (v2 &&& (v6 ^^^ (-1))), .int (v3 - x6), .int (v4 + x7)]) (st := []) okX11_fills lkX11_397 rfl h0.1 rfl (Nat.le_refl _) (Nat.le_of_ble_eq_true rfl) (e7 c0 c1 c2 x3 M3 w3 x4 M4 w4 c3 x5 M5 w5 c4 x6 M6 w6 x7 M7 w7) dX11_fills_185 (fun r8 M8 w8 => ?_)
            obtain ⟨rfl, w8⟩ := w8
            refine pg_iinc (pc := 188) (i := 6) (j := 6) (x := v6) (v := v6 + 1) (ls' := [(6, .int (v6 + 1)), (0, .ref 207), (1, .int v1), (2, .int v2), (3, .int v3), (4, .int v4), (5, .int v5)]) dX11_fills_188 rfl rfl (by decide) rfl ?_
            refine pg_goto (pc := 191) (tgt := 98) dX11_fills_191 (by decide) ?_
            refine pg_drop (ks := [1, 2, 3, 4, 5, 6, 0]) (ls' := [(0, .ref 207), (1, .int v1), (2, .int v2), (3, .int v3), (4, .int v4), (5, .int v5), (6, .int (v6 + 1))]) rfl ?_
            exact k5 c0 c1 c2 x3 M3 w3 x4 M4 w4 c3 x5 M5 w5 c4 x6 M6 w6 x7 M7 w7 M8 w8
theorem sX11_fills_26 {v1 : Int32} {v5 : Int32} 
    (h0 : pg_isX11 Λ)
    (k0 : (v1 ≤ v5) → P none M)
    (b0 : (¬ v1 ≤ v5) → vp_in v5 6)
    (k1 : (¬ v1 ≤ v5) → pg_At S Λ YX11_fills (d + 1) 26 [(0, .ref 207), (1, .int v1), (5, .int (v5 + 1))] [] (pg_si M 225 v5.toNatClampNeg (M.1 224 v5.toNatClampNeg)) P) :
    pg_At S Λ YX11_fills (d + 1) 26 [(0, .ref 207), (1, .int v1), (5, .int v5)] [] M P := by
  refine pg_iload (pc := 26) (i := 5) (j := 2) (x := v5) dX11_fills_26 rfl ?_
  refine pg_iload_n (pc := 28) (i := 1) (j := 1) (x := v1) dX11_fills_28 rfl rfl ?_
  refine pg_icmp_ge (pc := 29) (tgt := 52) dX11_fills_29 (by decide) (fun c0 => ?_) (fun c0 => ?_)
  · skip
    exact pg_vret (pc := 52) rfl dX11_fills_52 (k0 c0)
  · skip
    refine pg_aload_n (pc := 32) (i := 0) (j := 0) (x := 207) dX11_fills_32 rfl rfl ?_
    refine gfX11_126 (pc := 33) rfl h0 dX11_fills_33 ?_
    refine pg_iload (pc := 36) (i := 5) (j := 2) (x := v5) dX11_fills_36 rfl ?_
    refine pg_aload_n (pc := 38) (i := 0) (j := 0) (x := 207) dX11_fills_38 rfl rfl ?_
    refine gfX11_123 (pc := 39) rfl h0 dX11_fills_39 ?_
    refine pg_iload (pc := 42) (i := 5) (j := 2) (x := v5) dX11_fills_42 rfl ?_
    refine pg_iald (pc := 44) h0.2.2.2.2.2.2.2.2.2.2.2.2.2.2.2.2.2.1 (b0 c0) dX11_fills_44 ?_
    refine pg_iast (pc := 45) h0.2.2.2.2.2.2.2.2.2.2.2.2.2.2.2.2.2.2.1 (b0 c0) dX11_fills_45 ?_
    refine pg_iinc (pc := 46) (i := 5) (j := 2) (x := v5) (v := v5 + 1) (ls' := [(5, .int (v5 + 1)), (0, .ref 207), (1, .int v1)]) dX11_fills_46 rfl rfl (by decide) rfl ?_
    refine pg_goto (pc := 49) (tgt := 26) dX11_fills_49 (by decide) ?_
    refine pg_drop (ks := [1, 2, 0]) (ls' := [(0, .ref 207), (1, .int v1), (5, .int (v5 + 1))]) rfl ?_
    exact k1 c0
theorem oX11_fills {d : Nat} {v1 : Int32} {v2 : Int32} {v3 : Int32} {v4 : Int32} (h : pg_At S Λ YX11_fills d 0 [(0, .ref 207), (1, .int v1), (2, .int v2), (3, .int v3), (4, .int v4)] [] M P) : pg_Ev S Λ YX11_fills d [.ref 207, .int v1, .int v2, .int v3, .int v4] M P := pg_Ev.of (by decide) (by first | decide | exact Nat.le_of_ble_eq_true rfl) h
theorem sX11_fill_0 {v1 : Int32} {v2 : Int32} {Q0 : Int32 → pg_M → Prop} {Q1 : pg_M → Prop} {Q2 : Int32 → pg_M → Prop} {Q3 : pg_M → Prop}
    (h0 : pg_isX11 Λ)
    (e0 : pg_Ev S Λ YX11_within d [.int v1, .int 1, .int 6] (pg_si M 207 0 0) (fun r M' => ∃ x, r = some (.int x) ∧ Q0 x M'))
    (k0 : ∀ x1 M1, Q0 x1 M1 → (x1 = 0) → P (some (.int (-2))) M1)
    (e1 : ∀ x1 M1, Q0 x1 M1 → (¬ x1 = 0) → (v2 = (-1)) → pg_Ev S Λ YX11_findHardest d [.ref 207, .int v1] M1 (fun r M' => r = none ∧ Q1 M'))
    (k1 : ∀ x1 M1, Q0 x1 M1 → (¬ x1 = 0) → (v2 = (-1)) → ∀ M2, Q1 M2 → pg_At S Λ YX11_fill (d + 1) 55 [(0, .ref 207), (2, .int v2), (3, .int 0), (4, .int 0)] [] (pg_si M2 207 29 (((1 : Int32) <<< ((M2.1 221 (1 : Int32).toNatClampNeg) &&& 31)) - 1)) P)
    (e2 : ∀ x1 M1, Q0 x1 M1 → (¬ x1 = 0) → (¬ v2 = (-1)) → pg_Ev S Λ YX11_isCloth d [.ref 207, .int v2] M1 (fun r M' => ∃ x, r = some (.int x) ∧ Q2 x M'))
    (e3 : ∀ x1 M1, Q0 x1 M1 → (¬ x1 = 0) → (¬ v2 = (-1)) → ∀ x3 M3, Q2 x3 M3 → (¬ x3 = 0) → pg_Ev S Λ YX11_findHardest d [.ref 207, .int v1] M3 (fun r M' => r = none ∧ Q3 M'))
    (k2 : ∀ x1 M1, Q0 x1 M1 → (¬ x1 = 0) → (¬ v2 = (-1)) → ∀ x3 M3, Q2 x3 M3 → (¬ x3 = 0) → ∀ M4, Q3 M4 → pg_At S Λ YX11_fill (d + 1) 55 [(0, .ref 207), (2, .int v2), (3, .int 0), (4, .int 0)] [] (pg_si M4 207 29 (((1 : Int32) <<< ((M4.1 221 (1 : Int32).toNatClampNeg) &&& 31)) - 1)) P)
    (k3 : ∀ x1 M1, Q0 x1 M1 → (¬ x1 = 0) → (¬ v2 = (-1)) → ∀ x3 M3, Q2 x3 M3 → (x3 = 0) → P (some (.int (-2))) M3) :
    pg_At S Λ YX11_fill (d + 1) 0 [(0, .ref 207), (1, .int v1), (2, .int v2)] [] M P := by
  refine pg_aload_n (pc := 0) (i := 0) (j := 0) (x := 207) dX11_fill_0 rfl rfl ?_
  refine pg_iconst (pc := 1) (v := 0) dX11_fill_1 (by decide) ?_
  refine pfX11_1 (pc := 2) rfl h0 dX11_fill_2 ?_
  refine pg_iload_n (pc := 5) (i := 1) (j := 1) (x := v1) dX11_fill_5 rfl rfl ?_
  refine pg_iconst (pc := 6) (v := 1) dX11_fill_6 (by decide) ?_
  refine pg_bipush (pc := 7) (v := 6) dX11_fill_7 (by decide) ?_
  refine pg_callS (pc := 9) (As := [.int v1, .int 1, .int 6]) (st := []) okX11_within lkX11_349 rfl (Nat.le_refl _) (Nat.le_of_ble_eq_true rfl) e0 dX11_fill_9 (fun r1 M1 w1 => ?_)
  obtain ⟨x1, rfl, w1⟩ := w1
  refine pg_if_eq (pc := 12) (tgt := 28) dX11_fill_12 (by decide) (fun c0 => ?_) (fun c0 => ?_)
  · skip
    refine pg_bipush (pc := 28) (v := (-2)) dX11_fill_28 (by decide) ?_
    exact pg_iret (pc := 30) rfl dX11_fill_30 (k0 x1 M1 w1 c0)
  · skip
    refine pg_iload_n (pc := 15) (i := 2) (j := 2) (x := v2) dX11_fill_15 rfl rfl ?_
    refine pg_iconst (pc := 16) (v := (-1)) dX11_fill_16 (by decide) ?_
    refine pg_icmp_eq (pc := 17) (tgt := 31) dX11_fill_17 (by decide) (fun c1 => ?_) (fun c1 => ?_)
    · skip
      refine pg_aload_n (pc := 31) (i := 0) (j := 0) (x := 207) dX11_fill_31 rfl rfl ?_
      refine pg_iload_n (pc := 32) (i := 1) (j := 1) (x := v1) dX11_fill_32 rfl rfl ?_
      refine pg_callV (pc := 33) (As := [.int v1]) (st := []) okX11_findHardest lkX11_401 rfl h0.1 rfl (Nat.le_refl _) (Nat.le_of_ble_eq_true rfl) (e1 x1 M1 w1 c0 c1) dX11_fill_33 (fun r2 M2 w2 => ?_)
      obtain ⟨rfl, w2⟩ := w2
      refine pg_aload_n (pc := 36) (i := 0) (j := 0) (x := 207) dX11_fill_36 rfl rfl ?_
      refine pg_iconst (pc := 37) (v := 1) dX11_fill_37 (by decide) ?_
      refine pg_aload_n (pc := 38) (i := 0) (j := 0) (x := 207) dX11_fill_38 rfl rfl ?_
      refine gfX11_113 (pc := 39) rfl h0 dX11_fill_39 ?_
      refine pg_iconst (pc := 42) (v := 1) dX11_fill_42 (by decide) ?_
      refine pg_iald (pc := 43) h0.2.2.2.2.2.2.2.2.2.2.2.2.2.2.1 (by unfold vp_in; decide) dX11_fill_43 ?_
      refine pg_ishl (pc := 44) dX11_fill_44 ?_
      refine pg_iconst (pc := 45) (v := 1) dX11_fill_45 (by decide) ?_
      refine pg_isub (pc := 46) dX11_fill_46 ?_
      refine pfX11_394 (pc := 47) rfl h0 dX11_fill_47 ?_
      refine pg_iconst (pc := 50) (v := 0) dX11_fill_50 (by decide) ?_
      refine pg_istore_n (pc := 51) (i := 3) (ls' := [(3, .int 0), (0, .ref 207), (1, .int v1), (2, .int v2)]) dX11_fill_51 rfl (by decide) rfl ?_
      refine pg_iconst (pc := 52) (v := 0) dX11_fill_52 (by decide) ?_
      refine pg_istore (pc := 53) (i := 4) (ls' := [(4, .int 0), (3, .int 0), (0, .ref 207), (1, .int v1), (2, .int v2)]) dX11_fill_53 (by decide) rfl ?_
      refine pg_drop (ks := [2, 4, 1, 0]) (ls' := [(0, .ref 207), (2, .int v2), (3, .int 0), (4, .int 0)]) rfl ?_
      exact k1 x1 M1 w1 c0 c1 M2 w2
    · skip
      refine pg_aload_n (pc := 20) (i := 0) (j := 0) (x := 207) dX11_fill_20 rfl rfl ?_
      refine pg_iload_n (pc := 21) (i := 2) (j := 2) (x := v2) dX11_fill_21 rfl rfl ?_
      refine pg_callV (pc := 22) (As := [.int v2]) (st := []) okX11_isCloth lkX11_346 rfl h0.1 rfl (Nat.le_refl _) (Nat.le_of_ble_eq_true rfl) (e2 x1 M1 w1 c0 c1) dX11_fill_22 (fun r3 M3 w3 => ?_)
      obtain ⟨x3, rfl, w3⟩ := w3
      refine pg_if_ne (pc := 25) (tgt := 31) dX11_fill_25 (by decide) (fun c2 => ?_) (fun c2 => ?_)
      · skip
        refine pg_aload_n (pc := 31) (i := 0) (j := 0) (x := 207) dX11_fill_31 rfl rfl ?_
        refine pg_iload_n (pc := 32) (i := 1) (j := 1) (x := v1) dX11_fill_32 rfl rfl ?_
        refine pg_callV (pc := 33) (As := [.int v1]) (st := []) okX11_findHardest lkX11_401 rfl h0.1 rfl (Nat.le_refl _) (Nat.le_of_ble_eq_true rfl) (e3 x1 M1 w1 c0 c1 x3 M3 w3 c2) dX11_fill_33 (fun r4 M4 w4 => ?_)
        obtain ⟨rfl, w4⟩ := w4
        refine pg_aload_n (pc := 36) (i := 0) (j := 0) (x := 207) dX11_fill_36 rfl rfl ?_
        refine pg_iconst (pc := 37) (v := 1) dX11_fill_37 (by decide) ?_
        refine pg_aload_n (pc := 38) (i := 0) (j := 0) (x := 207) dX11_fill_38 rfl rfl ?_
        refine gfX11_113 (pc := 39) rfl h0 dX11_fill_39 ?_
        refine pg_iconst (pc := 42) (v := 1) dX11_fill_42 (by decide) ?_
        refine pg_iald (pc := 43) h0.2.2.2.2.2.2.2.2.2.2.2.2.2.2.1 (by unfold vp_in; decide) dX11_fill_43 ?_
        refine pg_ishl (pc := 44) dX11_fill_44 ?_
        refine pg_iconst (pc := 45) (v := 1) dX11_fill_45 (by decide) ?_
        refine pg_isub (pc := 46) dX11_fill_46 ?_
        refine pfX11_394 (pc := 47) rfl h0 dX11_fill_47 ?_
        refine pg_iconst (pc := 50) (v := 0) dX11_fill_50 (by decide) ?_
        refine pg_istore_n (pc := 51) (i := 3) (ls' := [(3, .int 0), (0, .ref 207), (1, .int v1), (2, .int v2)]) dX11_fill_51 rfl (by decide) rfl ?_
        refine pg_iconst (pc := 52) (v := 0) dX11_fill_52 (by decide) ?_
        refine pg_istore (pc := 53) (i := 4) (ls' := [(4, .int 0), (3, .int 0), (0, .ref 207), (1, .int v1), (2, .int v2)]) dX11_fill_53 (by decide) rfl ?_
        refine pg_drop (ks := [2, 4, 1, 0]) (ls' := [(0, .ref 207), (2, .int v2), (3, .int 0), (4, .int 0)]) rfl ?_
        exact k2 x1 M1 w1 c0 c1 x3 M3 w3 c2 M4 w4
      · skip
        refine pg_bipush (pc := 28) (v := (-2)) dX11_fill_28 (by decide) ?_
        exact pg_iret (pc := 30) rfl dX11_fill_30 (k3 x1 M1 w1 c0 c1 x3 M3 w3 c2)
theorem sX11_fill_55 {v2 : Int32} {v3 : Int32} {v4 : Int32} {Q0 : pg_M → Prop}
    (h0 : pg_isX11 Λ)
    (e0 : ((M.1 221 (1 : Int32).toNatClampNeg) ≤ v4) → pg_Ev S Λ YX11_fills d [.ref 207, .int 0, .int v3, .int ((pg_si M 207 28 (-1)).1 213 (3 : Int32).toNatClampNeg), .int 0] (pg_si M 207 28 (-1)) (fun r M' => r = none ∧ Q0 M'))
    (b0 : ((M.1 221 (1 : Int32).toNatClampNeg) ≤ v4) → ∀ M1, Q0 M1 → (0 ≤ v2) → vp_in v2 6)
    (k0 : ((M.1 221 (1 : Int32).toNatClampNeg) ≤ v4) → ∀ M1, Q0 M1 → (0 ≤ v2) → P (some (.int (M1.1 225 v2.toNatClampNeg))) M1)
    (k1 : ((M.1 221 (1 : Int32).toNatClampNeg) ≤ v4) → ∀ M1, Q0 M1 → (¬ 0 ≤ v2) → P (some (.int (M1.1 207 28))) M1)
    (b1 : (¬ (M.1 221 (1 : Int32).toNatClampNeg) ≤ v4) → vp_in (20 + v4) 1242)
    (k2 : (¬ (M.1 221 (1 : Int32).toNatClampNeg) ≤ v4) → ((M.1 221 (20 + v4).toNatClampNeg) ≤ 0) → pg_At S Λ YX11_fill (d + 1) 55 [(0, .ref 207), (2, .int v2), (3, .int (v3 ||| 0)), (4, .int (v4 + 1))] [] M P)
    (k3 : (¬ (M.1 221 (1 : Int32).toNatClampNeg) ≤ v4) → (¬ (M.1 221 (20 + v4).toNatClampNeg) ≤ 0) → pg_At S Λ YX11_fill (d + 1) 55 [(0, .ref 207), (2, .int v2), (3, .int (v3 ||| ((1 : Int32) <<< (v4 &&& 31)))), (4, .int (v4 + 1))] [] M P) :
    pg_At S Λ YX11_fill (d + 1) 55 [(0, .ref 207), (2, .int v2), (3, .int v3), (4, .int v4)] [] M P := by
  refine pg_iload (pc := 55) (i := 4) (j := 3) (x := v4) dX11_fill_55 rfl ?_
  refine pg_aload_n (pc := 57) (i := 0) (j := 0) (x := 207) dX11_fill_57 rfl rfl ?_
  refine gfX11_113 (pc := 58) rfl h0 dX11_fill_58 ?_
  refine pg_iconst (pc := 61) (v := 1) dX11_fill_61 (by decide) ?_
  refine pg_iald (pc := 62) h0.2.2.2.2.2.2.2.2.2.2.2.2.2.2.1 (by unfold vp_in; decide) dX11_fill_62 ?_
  refine pg_icmp_ge (pc := 63) (tgt := 96) dX11_fill_63 (by decide) (fun c0 => ?_) (fun c0 => ?_)
  · skip
    refine pg_aload_n (pc := 96) (i := 0) (j := 0) (x := 207) dX11_fill_96 rfl rfl ?_
    refine pg_iconst (pc := 97) (v := (-1)) dX11_fill_97 (by decide) ?_
    refine pfX11_391 (pc := 98) rfl h0 dX11_fill_98 ?_
    refine pg_aload_n (pc := 101) (i := 0) (j := 0) (x := 207) dX11_fill_101 rfl rfl ?_
    refine pg_iconst (pc := 102) (v := 0) dX11_fill_102 (by decide) ?_
    refine pg_iload_n (pc := 103) (i := 3) (j := 2) (x := v3) dX11_fill_103 rfl rfl ?_
    refine pg_aload_n (pc := 104) (i := 0) (j := 0) (x := 207) dX11_fill_104 rfl rfl ?_
    refine gfX11_89 (pc := 105) rfl h0 dX11_fill_105 ?_
    refine pg_iconst (pc := 108) (v := 3) dX11_fill_108 (by decide) ?_
    refine pg_iald (pc := 109) h0.2.2.2.2.2.2.1 (by unfold vp_in; decide) dX11_fill_109 ?_
    refine pg_iconst (pc := 110) (v := 0) dX11_fill_110 (by decide) ?_
    refine pg_callV (pc := 111) (As := [.int 0, .int v3, .int ((pg_si M 207 28 (-1)).1 213 (3 : Int32).toNatClampNeg), .int 0]) (st := []) okX11_fills lkX11_397 rfl h0.1 rfl (Nat.le_refl _) (Nat.le_of_ble_eq_true rfl) (e0 c0) dX11_fill_111 (fun r1 M1 w1 => ?_)
    obtain ⟨rfl, w1⟩ := w1
    refine pg_iload_n (pc := 114) (i := 2) (j := 1) (x := v2) dX11_fill_114 rfl rfl ?_
    refine pg_if_ge (pc := 115) (tgt := 125) dX11_fill_115 (by decide) (fun c1 => ?_) (fun c1 => ?_)
    · skip
      refine pg_aload_n (pc := 125) (i := 0) (j := 0) (x := 207) dX11_fill_125 rfl rfl ?_
      refine gfX11_126 (pc := 126) rfl h0 dX11_fill_126 ?_
      refine pg_iload_n (pc := 129) (i := 2) (j := 1) (x := v2) dX11_fill_129 rfl rfl ?_
      refine pg_iald (pc := 130) h0.2.2.2.2.2.2.2.2.2.2.2.2.2.2.2.2.2.2.1 (b0 c0 M1 w1 c1) dX11_fill_130 ?_
      exact pg_iret (pc := 131) rfl dX11_fill_131 (k0 c0 M1 w1 c1)
    · skip
      refine pg_aload_n (pc := 118) (i := 0) (j := 0) (x := 207) dX11_fill_118 rfl rfl ?_
      refine gfX11_391 (pc := 119) rfl h0 dX11_fill_119 ?_
      refine pg_goto (pc := 122) (tgt := 131) dX11_fill_122 (by decide) ?_
      exact pg_iret (pc := 131) rfl dX11_fill_131 (k1 c0 M1 w1 c1)
  · skip
    refine pg_iload_n (pc := 66) (i := 3) (j := 2) (x := v3) dX11_fill_66 rfl rfl ?_
    refine pg_aload_n (pc := 67) (i := 0) (j := 0) (x := 207) dX11_fill_67 rfl rfl ?_
    refine gfX11_113 (pc := 68) rfl h0 dX11_fill_68 ?_
    refine pg_bipush (pc := 71) (v := 20) dX11_fill_71 (by decide) ?_
    refine pg_iload (pc := 73) (i := 4) (j := 3) (x := v4) dX11_fill_73 rfl ?_
    refine pg_iadd (pc := 75) dX11_fill_75 ?_
    refine pg_iald (pc := 76) h0.2.2.2.2.2.2.2.2.2.2.2.2.2.2.1 (b1 c0) dX11_fill_76 ?_
    refine pg_if_le (pc := 77) (tgt := 87) dX11_fill_77 (by decide) (fun c1 => ?_) (fun c1 => ?_)
    · skip
      refine pg_iconst (pc := 87) (v := 0) dX11_fill_87 (by decide) ?_
      refine pg_ior (pc := 88) dX11_fill_88 ?_
      refine pg_istore_n (pc := 89) (i := 3) (ls' := [(3, .int (v3 ||| 0)), (0, .ref 207), (2, .int v2), (4, .int v4)]) dX11_fill_89 rfl (by decide) rfl ?_
      refine pg_iinc (pc := 90) (i := 4) (j := 3) (x := v4) (v := v4 + 1) (ls' := [(4, .int (v4 + 1)), (3, .int (v3 ||| 0)), (0, .ref 207), (2, .int v2)]) dX11_fill_90 rfl rfl (by decide) rfl ?_
      refine pg_goto (pc := 93) (tgt := 55) dX11_fill_93 (by decide) ?_
      refine pg_drop (ks := [2, 3, 1, 0]) (ls' := [(0, .ref 207), (2, .int v2), (3, .int (v3 ||| 0)), (4, .int (v4 + 1))]) rfl ?_
      exact k2 c0 c1
    · skip
      refine pg_iconst (pc := 80) (v := 1) dX11_fill_80 (by decide) ?_
      refine pg_iload (pc := 81) (i := 4) (j := 3) (x := v4) dX11_fill_81 rfl ?_
      refine pg_ishl (pc := 83) dX11_fill_83 ?_
      refine pg_goto (pc := 84) (tgt := 88) dX11_fill_84 (by decide) ?_
      refine pg_ior (pc := 88) dX11_fill_88 ?_
      refine pg_istore_n (pc := 89) (i := 3) (ls' := [(3, .int (v3 ||| ((1 : Int32) <<< (v4 &&& 31)))), (0, .ref 207), (2, .int v2), (4, .int v4)]) dX11_fill_89 rfl (by decide) rfl ?_
      refine pg_iinc (pc := 90) (i := 4) (j := 3) (x := v4) (v := v4 + 1) (ls' := [(4, .int (v4 + 1)), (3, .int (v3 ||| ((1 : Int32) <<< (v4 &&& 31)))), (0, .ref 207), (2, .int v2)]) dX11_fill_90 rfl rfl (by decide) rfl ?_
      refine pg_goto (pc := 93) (tgt := 55) dX11_fill_93 (by decide) ?_
      refine pg_drop (ks := [2, 3, 1, 0]) (ls' := [(0, .ref 207), (2, .int v2), (3, .int (v3 ||| ((1 : Int32) <<< (v4 &&& 31)))), (4, .int (v4 + 1))]) rfl ?_
      exact k3 c0 c1
theorem oX11_fill {d : Nat} {v1 : Int32} {v2 : Int32} (h : pg_At S Λ YX11_fill d 0 [(0, .ref 207), (1, .int v1), (2, .int v2)] [] M P) : pg_Ev S Λ YX11_fill d [.ref 207, .int v1, .int v2] M P := pg_Ev.of (by decide) (by first | decide | exact Nat.le_of_ble_eq_true rfl) h
theorem sX11_hanging_0 {v1 : Int32} {v2 : Int32} {v3 : Int32} {v4 : Int32} {v5 : Int32} 
    (k0 : (¬ v4 = v5) → pg_At S Λ YX11_hanging (d + 1) 15 [(0, .ref 207), (1, .int v1), (2, .int v2), (3, .int v3), (4, .int v4), (5, .int v5), (6, .long 0), (8, .int 0)] [] M P)
    (k1 : (v4 = v5) → P (some (.long 1)) M) :
    pg_At S Λ YX11_hanging (d + 1) 0 [(0, .ref 207), (1, .int v1), (2, .int v2), (3, .int v3), (4, .int v4), (5, .int v5)] [] M P := by
  refine pg_iload (pc := 0) (i := 4) (j := 4) (x := v4) dX11_hanging_0 rfl ?_
  refine pg_iload (pc := 2) (i := 5) (j := 5) (x := v5) dX11_hanging_2 rfl ?_
  refine pg_icmp_ne (pc := 4) (tgt := 9) dX11_hanging_4 (by decide) (fun c0 => ?_) (fun c0 => ?_)
  · skip
    refine pg_lconst (pc := 9) (v := 0) dX11_hanging_9 (by decide) ?_
    refine pg_lstore (pc := 10) (i := 6) (ls' := [(6, .long 0), (0, .ref 207), (1, .int v1), (2, .int v2), (3, .int v3), (4, .int v4), (5, .int v5)]) dX11_hanging_10 (by decide) rfl ?_
    refine pg_iconst (pc := 12) (v := 0) dX11_hanging_12 (by decide) ?_
    refine pg_istore (pc := 13) (i := 8) (ls' := [(8, .int 0), (6, .long 0), (0, .ref 207), (1, .int v1), (2, .int v2), (3, .int v3), (4, .int v4), (5, .int v5)]) dX11_hanging_13 (by decide) rfl ?_
    refine pg_drop (ks := [2, 3, 4, 5, 6, 7, 1, 0]) (ls' := [(0, .ref 207), (1, .int v1), (2, .int v2), (3, .int v3), (4, .int v4), (5, .int v5), (6, .long 0), (8, .int 0)]) rfl ?_
    exact k0 c0
  · skip
    refine pg_lconst (pc := 7) (v := 1) dX11_hanging_7 (by decide) ?_
    exact pg_lret (pc := 8) rfl dX11_hanging_8 (k1 c0)
theorem sX11_hanging_15 {v1 : Int32} {v2 : Int32} {v3 : Int32} {v4 : Int32} {v5 : Int32} {v6 : Int64} {v8 : Int32} {Q0 : Int32 → pg_M → Prop} {Q1 : Int32 → pg_M → Prop} {Q2 : Int32 → pg_M → Prop} {Q3 : Int32 → pg_M → Prop}
    (h0 : pg_isX11 Λ)
    (k0 : (2 ≤ v8) → P (some (.long v6)) M)
    (e0 : (¬ 2 ≤ v8) → (¬ v8 = 1) → (¬ v8 = 1) → pg_Ev S Λ YX11_windOf d [.ref 207, .int ((M.1 221 (0 : Int32).toNatClampNeg) + v4), .int 0] M (fun r M' => ∃ x, r = some (.int x) ∧ Q0 x M'))
    (k1 : (¬ 2 ≤ v8) → (¬ v8 = 1) → (¬ v8 = 1) → ∀ x1 M1, Q0 x1 M1 → pg_At S Λ YX11_hanging (d + 1) 79 [(0, .ref 207), (1, .int v1), (2, .int v2), (3, .int v3), (4, .int v4), (5, .int v5), (6, .long v6), (8, .int v8), (9, .int (10 - (M.1 213 (4 : Int32).toNatClampNeg))), (10, .int x1), (11, .int 0), (12, .int 0)] [] M1 P)
    (e1 : (¬ 2 ≤ v8) → (¬ v8 = 1) → (v8 = 1) → pg_Ev S Λ YX11_windOf d [.ref 207, .int ((M.1 221 (0 : Int32).toNatClampNeg) + v4), .int 1] M (fun r M' => ∃ x, r = some (.int x) ∧ Q1 x M'))
    (k2 : (¬ 2 ≤ v8) → (¬ v8 = 1) → (v8 = 1) → ∀ x2 M2, Q1 x2 M2 → pg_At S Λ YX11_hanging (d + 1) 79 [(0, .ref 207), (1, .int v1), (2, .int v2), (3, .int v3), (4, .int v4), (5, .int v5), (6, .long v6), (8, .int v8), (9, .int (10 - (M.1 213 (4 : Int32).toNatClampNeg))), (10, .int x2), (11, .int 0), (12, .int 0)] [] M2 P)
    (e2 : (¬ 2 ≤ v8) → (v8 = 1) → (¬ v8 = 1) → pg_Ev S Λ YX11_windOf d [.ref 207, .int ((M.1 221 (0 : Int32).toNatClampNeg) + v4), .int 0] M (fun r M' => ∃ x, r = some (.int x) ∧ Q2 x M'))
    (k3 : (¬ 2 ≤ v8) → (v8 = 1) → (¬ v8 = 1) → ∀ x3 M3, Q2 x3 M3 → pg_At S Λ YX11_hanging (d + 1) 79 [(0, .ref 207), (1, .int v1), (2, .int v2), (3, .int v3), (4, .int v4), (5, .int v5), (6, .long v6), (8, .int v8), (9, .int (M.1 213 (4 : Int32).toNatClampNeg)), (10, .int x3), (11, .int 0), (12, .int 0)] [] M3 P)
    (e3 : (¬ 2 ≤ v8) → (v8 = 1) → (v8 = 1) → pg_Ev S Λ YX11_windOf d [.ref 207, .int ((M.1 221 (0 : Int32).toNatClampNeg) + v4), .int 1] M (fun r M' => ∃ x, r = some (.int x) ∧ Q3 x M'))
    (k4 : (¬ 2 ≤ v8) → (v8 = 1) → (v8 = 1) → ∀ x4 M4, Q3 x4 M4 → pg_At S Λ YX11_hanging (d + 1) 79 [(0, .ref 207), (1, .int v1), (2, .int v2), (3, .int v3), (4, .int v4), (5, .int v5), (6, .long v6), (8, .int v8), (9, .int (M.1 213 (4 : Int32).toNatClampNeg)), (10, .int x4), (11, .int 0), (12, .int 0)] [] M4 P) :
    pg_At S Λ YX11_hanging (d + 1) 15 [(0, .ref 207), (1, .int v1), (2, .int v2), (3, .int v3), (4, .int v4), (5, .int v5), (6, .long v6), (8, .int v8)] [] M P := by
  refine pg_iload (pc := 15) (i := 8) (j := 7) (x := v8) dX11_hanging_15 rfl ?_
  refine pg_iconst (pc := 17) (v := 2) dX11_hanging_17 (by decide) ?_
  refine pg_icmp_ge (pc := 18) (tgt := 321) dX11_hanging_18 (by decide) (fun c0 => ?_) (fun c0 => ?_)
  · skip
    refine pg_lload (pc := 321) (i := 6) (j := 6) (x := v6) dX11_hanging_321 rfl ?_
    exact pg_lret (pc := 323) rfl dX11_hanging_323 (k0 c0)
  · skip
    refine pg_iload (pc := 21) (i := 8) (j := 7) (x := v8) dX11_hanging_21 rfl ?_
    refine pg_iconst (pc := 23) (v := 1) dX11_hanging_23 (by decide) ?_
    refine pg_icmp_ne (pc := 24) (tgt := 36) dX11_hanging_24 (by decide) (fun c1 => ?_) (fun c1 => ?_)
    · skip
      refine pg_bipush (pc := 36) (v := 10) dX11_hanging_36 (by decide) ?_
      refine pg_aload_n (pc := 38) (i := 0) (j := 0) (x := 207) dX11_hanging_38 rfl rfl ?_
      refine gfX11_89 (pc := 39) rfl h0 dX11_hanging_39 ?_
      refine pg_iconst (pc := 42) (v := 4) dX11_hanging_42 (by decide) ?_
      refine pg_iald (pc := 43) h0.2.2.2.2.2.2.1 (by unfold vp_in; decide) dX11_hanging_43 ?_
      refine pg_isub (pc := 44) dX11_hanging_44 ?_
      refine pg_istore (pc := 45) (i := 9) (ls' := [(9, .int (10 - (M.1 213 (4 : Int32).toNatClampNeg))), (0, .ref 207), (1, .int v1), (2, .int v2), (3, .int v3), (4, .int v4), (5, .int v5), (6, .long v6), (8, .int v8)]) dX11_hanging_45 (by decide) rfl ?_
      refine pg_aload_n (pc := 47) (i := 0) (j := 1) (x := 207) dX11_hanging_47 rfl rfl ?_
      refine pg_aload_n (pc := 48) (i := 0) (j := 1) (x := 207) dX11_hanging_48 rfl rfl ?_
      refine gfX11_113 (pc := 49) rfl h0 dX11_hanging_49 ?_
      refine pg_iconst (pc := 52) (v := 0) dX11_hanging_52 (by decide) ?_
      refine pg_iald (pc := 53) h0.2.2.2.2.2.2.2.2.2.2.2.2.2.2.1 (by unfold vp_in; decide) dX11_hanging_53 ?_
      refine pg_iload (pc := 54) (i := 4) (j := 5) (x := v4) dX11_hanging_54 rfl ?_
      refine pg_iadd (pc := 56) dX11_hanging_56 ?_
      refine pg_iload (pc := 57) (i := 8) (j := 8) (x := v8) dX11_hanging_57 rfl ?_
      refine pg_iconst (pc := 59) (v := 1) dX11_hanging_59 (by decide) ?_
      refine pg_icmp_ne (pc := 60) (tgt := 67) dX11_hanging_60 (by decide) (fun c2 => ?_) (fun c2 => ?_)
      · skip
        refine pg_iconst (pc := 67) (v := 0) dX11_hanging_67 (by decide) ?_
        refine pg_callV (pc := 68) (As := [.int ((M.1 221 (0 : Int32).toNatClampNeg) + v4), .int 0]) (st := []) okX11_windOf lkX11_332 rfl h0.1 rfl (Nat.le_refl _) (Nat.le_of_ble_eq_true rfl) (e0 c0 c1 c2) dX11_hanging_68 (fun r1 M1 w1 => ?_)
        obtain ⟨x1, rfl, w1⟩ := w1
        refine pg_istore (pc := 71) (i := 10) (ls' := [(10, .int x1), (9, .int (10 - (M.1 213 (4 : Int32).toNatClampNeg))), (0, .ref 207), (1, .int v1), (2, .int v2), (3, .int v3), (4, .int v4), (5, .int v5), (6, .long v6), (8, .int v8)]) dX11_hanging_71 (by decide) rfl ?_
        refine pg_iconst (pc := 73) (v := 0) dX11_hanging_73 (by decide) ?_
        refine pg_istore (pc := 74) (i := 11) (ls' := [(11, .int 0), (10, .int x1), (9, .int (10 - (M.1 213 (4 : Int32).toNatClampNeg))), (0, .ref 207), (1, .int v1), (2, .int v2), (3, .int v3), (4, .int v4), (5, .int v5), (6, .long v6), (8, .int v8)]) dX11_hanging_74 (by decide) rfl ?_
        refine pg_iconst (pc := 76) (v := 0) dX11_hanging_76 (by decide) ?_
        refine pg_istore (pc := 77) (i := 12) (ls' := [(12, .int 0), (11, .int 0), (10, .int x1), (9, .int (10 - (M.1 213 (4 : Int32).toNatClampNeg))), (0, .ref 207), (1, .int v1), (2, .int v2), (3, .int v3), (4, .int v4), (5, .int v5), (6, .long v6), (8, .int v8)]) dX11_hanging_77 (by decide) rfl ?_
        refine pg_drop (ks := [4, 5, 6, 7, 8, 9, 10, 11, 3, 2, 1, 0]) (ls' := [(0, .ref 207), (1, .int v1), (2, .int v2), (3, .int v3), (4, .int v4), (5, .int v5), (6, .long v6), (8, .int v8), (9, .int (10 - (M.1 213 (4 : Int32).toNatClampNeg))), (10, .int x1), (11, .int 0), (12, .int 0)]) rfl ?_
        exact k1 c0 c1 c2 x1 M1 w1
      · skip
        refine pg_iconst (pc := 63) (v := 1) dX11_hanging_63 (by decide) ?_
        refine pg_goto (pc := 64) (tgt := 68) dX11_hanging_64 (by decide) ?_
        refine pg_callV (pc := 68) (As := [.int ((M.1 221 (0 : Int32).toNatClampNeg) + v4), .int 1]) (st := []) okX11_windOf lkX11_332 rfl h0.1 rfl (Nat.le_refl _) (Nat.le_of_ble_eq_true rfl) (e1 c0 c1 c2) dX11_hanging_68 (fun r2 M2 w2 => ?_)
        obtain ⟨x2, rfl, w2⟩ := w2
        refine pg_istore (pc := 71) (i := 10) (ls' := [(10, .int x2), (9, .int (10 - (M.1 213 (4 : Int32).toNatClampNeg))), (0, .ref 207), (1, .int v1), (2, .int v2), (3, .int v3), (4, .int v4), (5, .int v5), (6, .long v6), (8, .int v8)]) dX11_hanging_71 (by decide) rfl ?_
        refine pg_iconst (pc := 73) (v := 0) dX11_hanging_73 (by decide) ?_
        refine pg_istore (pc := 74) (i := 11) (ls' := [(11, .int 0), (10, .int x2), (9, .int (10 - (M.1 213 (4 : Int32).toNatClampNeg))), (0, .ref 207), (1, .int v1), (2, .int v2), (3, .int v3), (4, .int v4), (5, .int v5), (6, .long v6), (8, .int v8)]) dX11_hanging_74 (by decide) rfl ?_
        refine pg_iconst (pc := 76) (v := 0) dX11_hanging_76 (by decide) ?_
        refine pg_istore (pc := 77) (i := 12) (ls' := [(12, .int 0), (11, .int 0), (10, .int x2), (9, .int (10 - (M.1 213 (4 : Int32).toNatClampNeg))), (0, .ref 207), (1, .int v1), (2, .int v2), (3, .int v3), (4, .int v4), (5, .int v5), (6, .long v6), (8, .int v8)]) dX11_hanging_77 (by decide) rfl ?_
        refine pg_drop (ks := [4, 5, 6, 7, 8, 9, 10, 11, 3, 2, 1, 0]) (ls' := [(0, .ref 207), (1, .int v1), (2, .int v2), (3, .int v3), (4, .int v4), (5, .int v5), (6, .long v6), (8, .int v8), (9, .int (10 - (M.1 213 (4 : Int32).toNatClampNeg))), (10, .int x2), (11, .int 0), (12, .int 0)]) rfl ?_
        exact k2 c0 c1 c2 x2 M2 w2
    · skip
      refine pg_aload_n (pc := 27) (i := 0) (j := 0) (x := 207) dX11_hanging_27 rfl rfl ?_
      refine gfX11_89 (pc := 28) rfl h0 dX11_hanging_28 ?_
      refine pg_iconst (pc := 31) (v := 4) dX11_hanging_31 (by decide) ?_
      refine pg_iald (pc := 32) h0.2.2.2.2.2.2.1 (by unfold vp_in; decide) dX11_hanging_32 ?_
      refine pg_goto (pc := 33) (tgt := 45) dX11_hanging_33 (by decide) ?_
      refine pg_istore (pc := 45) (i := 9) (ls' := [(9, .int (M.1 213 (4 : Int32).toNatClampNeg)), (0, .ref 207), (1, .int v1), (2, .int v2), (3, .int v3), (4, .int v4), (5, .int v5), (6, .long v6), (8, .int v8)]) dX11_hanging_45 (by decide) rfl ?_
      refine pg_aload_n (pc := 47) (i := 0) (j := 1) (x := 207) dX11_hanging_47 rfl rfl ?_
      refine pg_aload_n (pc := 48) (i := 0) (j := 1) (x := 207) dX11_hanging_48 rfl rfl ?_
      refine gfX11_113 (pc := 49) rfl h0 dX11_hanging_49 ?_
      refine pg_iconst (pc := 52) (v := 0) dX11_hanging_52 (by decide) ?_
      refine pg_iald (pc := 53) h0.2.2.2.2.2.2.2.2.2.2.2.2.2.2.1 (by unfold vp_in; decide) dX11_hanging_53 ?_
      refine pg_iload (pc := 54) (i := 4) (j := 5) (x := v4) dX11_hanging_54 rfl ?_
      refine pg_iadd (pc := 56) dX11_hanging_56 ?_
      refine pg_iload (pc := 57) (i := 8) (j := 8) (x := v8) dX11_hanging_57 rfl ?_
      refine pg_iconst (pc := 59) (v := 1) dX11_hanging_59 (by decide) ?_
      refine pg_icmp_ne (pc := 60) (tgt := 67) dX11_hanging_60 (by decide) (fun c2 => ?_) (fun c2 => ?_)
      · skip
        refine pg_iconst (pc := 67) (v := 0) dX11_hanging_67 (by decide) ?_
        refine pg_callV (pc := 68) (As := [.int ((M.1 221 (0 : Int32).toNatClampNeg) + v4), .int 0]) (st := []) okX11_windOf lkX11_332 rfl h0.1 rfl (Nat.le_refl _) (Nat.le_of_ble_eq_true rfl) (e2 c0 c1 c2) dX11_hanging_68 (fun r3 M3 w3 => ?_)
        obtain ⟨x3, rfl, w3⟩ := w3
        refine pg_istore (pc := 71) (i := 10) (ls' := [(10, .int x3), (9, .int (M.1 213 (4 : Int32).toNatClampNeg)), (0, .ref 207), (1, .int v1), (2, .int v2), (3, .int v3), (4, .int v4), (5, .int v5), (6, .long v6), (8, .int v8)]) dX11_hanging_71 (by decide) rfl ?_
        refine pg_iconst (pc := 73) (v := 0) dX11_hanging_73 (by decide) ?_
        refine pg_istore (pc := 74) (i := 11) (ls' := [(11, .int 0), (10, .int x3), (9, .int (M.1 213 (4 : Int32).toNatClampNeg)), (0, .ref 207), (1, .int v1), (2, .int v2), (3, .int v3), (4, .int v4), (5, .int v5), (6, .long v6), (8, .int v8)]) dX11_hanging_74 (by decide) rfl ?_
        refine pg_iconst (pc := 76) (v := 0) dX11_hanging_76 (by decide) ?_
        refine pg_istore (pc := 77) (i := 12) (ls' := [(12, .int 0), (11, .int 0), (10, .int x3), (9, .int (M.1 213 (4 : Int32).toNatClampNeg)), (0, .ref 207), (1, .int v1), (2, .int v2), (3, .int v3), (4, .int v4), (5, .int v5), (6, .long v6), (8, .int v8)]) dX11_hanging_77 (by decide) rfl ?_
        refine pg_drop (ks := [4, 5, 6, 7, 8, 9, 10, 11, 3, 2, 1, 0]) (ls' := [(0, .ref 207), (1, .int v1), (2, .int v2), (3, .int v3), (4, .int v4), (5, .int v5), (6, .long v6), (8, .int v8), (9, .int (M.1 213 (4 : Int32).toNatClampNeg)), (10, .int x3), (11, .int 0), (12, .int 0)]) rfl ?_
        exact k3 c0 c1 c2 x3 M3 w3
      · skip
        refine pg_iconst (pc := 63) (v := 1) dX11_hanging_63 (by decide) ?_
        refine pg_goto (pc := 64) (tgt := 68) dX11_hanging_64 (by decide) ?_
        refine pg_callV (pc := 68) (As := [.int ((M.1 221 (0 : Int32).toNatClampNeg) + v4), .int 1]) (st := []) okX11_windOf lkX11_332 rfl h0.1 rfl (Nat.le_refl _) (Nat.le_of_ble_eq_true rfl) (e3 c0 c1 c2) dX11_hanging_68 (fun r4 M4 w4 => ?_)
        obtain ⟨x4, rfl, w4⟩ := w4
        refine pg_istore (pc := 71) (i := 10) (ls' := [(10, .int x4), (9, .int (M.1 213 (4 : Int32).toNatClampNeg)), (0, .ref 207), (1, .int v1), (2, .int v2), (3, .int v3), (4, .int v4), (5, .int v5), (6, .long v6), (8, .int v8)]) dX11_hanging_71 (by decide) rfl ?_
        refine pg_iconst (pc := 73) (v := 0) dX11_hanging_73 (by decide) ?_
        refine pg_istore (pc := 74) (i := 11) (ls' := [(11, .int 0), (10, .int x4), (9, .int (M.1 213 (4 : Int32).toNatClampNeg)), (0, .ref 207), (1, .int v1), (2, .int v2), (3, .int v3), (4, .int v4), (5, .int v5), (6, .long v6), (8, .int v8)]) dX11_hanging_74 (by decide) rfl ?_
        refine pg_iconst (pc := 76) (v := 0) dX11_hanging_76 (by decide) ?_
        refine pg_istore (pc := 77) (i := 12) (ls' := [(12, .int 0), (11, .int 0), (10, .int x4), (9, .int (M.1 213 (4 : Int32).toNatClampNeg)), (0, .ref 207), (1, .int v1), (2, .int v2), (3, .int v3), (4, .int v4), (5, .int v5), (6, .long v6), (8, .int v8)]) dX11_hanging_77 (by decide) rfl ?_
        refine pg_drop (ks := [4, 5, 6, 7, 8, 9, 10, 11, 3, 2, 1, 0]) (ls' := [(0, .ref 207), (1, .int v1), (2, .int v2), (3, .int v3), (4, .int v4), (5, .int v5), (6, .long v6), (8, .int v8), (9, .int (M.1 213 (4 : Int32).toNatClampNeg)), (10, .int x4), (11, .int 0), (12, .int 0)]) rfl ?_
        exact k4 c0 c1 c2 x4 M4 w4
theorem sX11_hanging_79 {v1 : Int32} {v2 : Int32} {v3 : Int32} {v4 : Int32} {v5 : Int32} {v6 : Int64} {v8 : Int32} {v9 : Int32} {v10 : Int32} {v11 : Int32} {v12 : Int32} {Q0 : Int32 → pg_M → Prop}
    (h0 : pg_isX11 Λ)
    (e0 : (8 ≤ v12) → pg_Ev S Λ YX11_pullOf d [.ref 207, .int v1, .int v3, .int v10] M (fun r M' => ∃ x, r = some (.int x) ∧ Q0 x M'))
    (k0 : (8 ≤ v12) → ∀ x1 M1, Q0 x1 M1 → pg_At S Λ YX11_hanging (d + 1) 168 [(0, .ref 207), (1, .int v1), (2, .int v2), (3, .int v3), (4, .int v4), (5, .int v5), (6, .long v6), (8, .int v8), (9, .int v9), (10, .int v10), (11, .int v11), (12, .int x1), (13, .int v2), (14, .int 0)] [] M1 P)
    (b0 : (¬ 8 ≤ v12) → vp_in ((8 * v4) + v12) 72)
    (b1 : (¬ 8 ≤ v12) → vp_in ((8 * (v4 + 1)) + v12) 72)
    (k1 : (¬ 8 ≤ v12) → (¬ ((v2 >>> (v12 &&& 31)) &&& 1) = 1) → pg_At S Λ YX11_hanging (d + 1) 79 [(0, .ref 207), (1, .int v1), (2, .int v2), (3, .int v3), (4, .int v4), (5, .int v5), (6, .long v6), (8, .int v8), (9, .int v9), (10, .int v10), (11, .int (v11 + 0)), (12, .int (v12 + 1))] [] (pg_si M 226 ((8 * (v4 + 1)) + v12).toNatClampNeg (M.1 226 ((8 * v4) + v12).toNatClampNeg)) P)
    (k2 : (¬ 8 ≤ v12) → (((v2 >>> (v12 &&& 31)) &&& 1) = 1) → pg_At S Λ YX11_hanging (d + 1) 79 [(0, .ref 207), (1, .int v1), (2, .int v2), (3, .int v3), (4, .int v4), (5, .int v5), (6, .long v6), (8, .int v8), (9, .int v9), (10, .int v10), (11, .int (v11 + ((pg_si M 226 ((8 * (v4 + 1)) + v12).toNatClampNeg (M.1 226 ((8 * v4) + v12).toNatClampNeg)).1 226 ((8 * v4) + v12).toNatClampNeg))), (12, .int (v12 + 1))] [] (pg_si M 226 ((8 * (v4 + 1)) + v12).toNatClampNeg (M.1 226 ((8 * v4) + v12).toNatClampNeg)) P) :
    pg_At S Λ YX11_hanging (d + 1) 79 [(0, .ref 207), (1, .int v1), (2, .int v2), (3, .int v3), (4, .int v4), (5, .int v5), (6, .long v6), (8, .int v8), (9, .int v9), (10, .int v10), (11, .int v11), (12, .int v12)] [] M P := by
  refine pg_iload (pc := 79) (i := 12) (j := 11) (x := v12) dX11_hanging_79 rfl ?_
  refine pg_bipush (pc := 81) (v := 8) dX11_hanging_81 (by decide) ?_
  refine pg_icmp_ge (pc := 83) (tgt := 152) dX11_hanging_83 (by decide) (fun c0 => ?_) (fun c0 => ?_)
  · skip
    refine pg_aload_n (pc := 152) (i := 0) (j := 0) (x := 207) dX11_hanging_152 rfl rfl ?_
    refine pg_iload_n (pc := 153) (i := 1) (j := 1) (x := v1) dX11_hanging_153 rfl rfl ?_
    refine pg_iload_n (pc := 154) (i := 3) (j := 3) (x := v3) dX11_hanging_154 rfl rfl ?_
    refine pg_iload (pc := 155) (i := 10) (j := 9) (x := v10) dX11_hanging_155 rfl ?_
    refine pg_callV (pc := 157) (As := [.int v1, .int v3, .int v10]) (st := []) okX11_pullOf lkX11_317 rfl h0.1 rfl (Nat.le_refl _) (Nat.le_of_ble_eq_true rfl) (e0 c0) dX11_hanging_157 (fun r1 M1 w1 => ?_)
    obtain ⟨x1, rfl, w1⟩ := w1
    refine pg_istore (pc := 160) (i := 12) (ls' := [(12, .int x1), (0, .ref 207), (1, .int v1), (2, .int v2), (3, .int v3), (4, .int v4), (5, .int v5), (6, .long v6), (8, .int v8), (9, .int v9), (10, .int v10), (11, .int v11)]) dX11_hanging_160 (by decide) rfl ?_
    refine pg_iload_n (pc := 162) (i := 2) (j := 3) (x := v2) dX11_hanging_162 rfl rfl ?_
    refine pg_istore (pc := 163) (i := 13) (ls' := [(13, .int v2), (12, .int x1), (0, .ref 207), (1, .int v1), (2, .int v2), (3, .int v3), (4, .int v4), (5, .int v5), (6, .long v6), (8, .int v8), (9, .int v9), (10, .int v10), (11, .int v11)]) dX11_hanging_163 (by decide) rfl ?_
    refine pg_iconst (pc := 165) (v := 0) dX11_hanging_165 (by decide) ?_
    refine pg_istore (pc := 166) (i := 14) (ls' := [(14, .int 0), (13, .int v2), (12, .int x1), (0, .ref 207), (1, .int v1), (2, .int v2), (3, .int v3), (4, .int v4), (5, .int v5), (6, .long v6), (8, .int v8), (9, .int v9), (10, .int v10), (11, .int v11)]) dX11_hanging_166 (by decide) rfl ?_
    refine pg_drop (ks := [3, 4, 5, 6, 7, 8, 9, 10, 11, 12, 13, 2, 1, 0]) (ls' := [(0, .ref 207), (1, .int v1), (2, .int v2), (3, .int v3), (4, .int v4), (5, .int v5), (6, .long v6), (8, .int v8), (9, .int v9), (10, .int v10), (11, .int v11), (12, .int x1), (13, .int v2), (14, .int 0)]) rfl ?_
    exact k0 c0 x1 M1 w1
  · skip
    refine pg_aload_n (pc := 86) (i := 0) (j := 0) (x := 207) dX11_hanging_86 rfl rfl ?_
    refine gfX11_129 (pc := 87) rfl h0 dX11_hanging_87 ?_
    refine pg_bipush (pc := 90) (v := 8) dX11_hanging_90 (by decide) ?_
    refine pg_iload (pc := 92) (i := 4) (j := 4) (x := v4) dX11_hanging_92 rfl ?_
    refine pg_iconst (pc := 94) (v := 1) dX11_hanging_94 (by decide) ?_
    refine pg_iadd (pc := 95) dX11_hanging_95 ?_
    refine pg_imul (pc := 96) dX11_hanging_96 ?_
    refine pg_iload (pc := 97) (i := 12) (j := 11) (x := v12) dX11_hanging_97 rfl ?_
    refine pg_iadd (pc := 99) dX11_hanging_99 ?_
    refine pg_aload_n (pc := 100) (i := 0) (j := 0) (x := 207) dX11_hanging_100 rfl rfl ?_
    refine gfX11_129 (pc := 101) rfl h0 dX11_hanging_101 ?_
    refine pg_bipush (pc := 104) (v := 8) dX11_hanging_104 (by decide) ?_
    refine pg_iload (pc := 106) (i := 4) (j := 4) (x := v4) dX11_hanging_106 rfl ?_
    refine pg_imul (pc := 108) dX11_hanging_108 ?_
    refine pg_iload (pc := 109) (i := 12) (j := 11) (x := v12) dX11_hanging_109 rfl ?_
    refine pg_iadd (pc := 111) dX11_hanging_111 ?_
    refine pg_iald (pc := 112) h0.2.2.2.2.2.2.2.2.2.2.2.2.2.2.2.2.2.2.2.1 (b0 c0) dX11_hanging_112 ?_
    refine pg_iast (pc := 113) h0.2.2.2.2.2.2.2.2.2.2.2.2.2.2.2.2.2.2.2.1 (b1 c0) dX11_hanging_113 ?_
    refine pg_iload (pc := 114) (i := 11) (j := 10) (x := v11) dX11_hanging_114 rfl ?_
    refine pg_iload_n (pc := 116) (i := 2) (j := 2) (x := v2) dX11_hanging_116 rfl rfl ?_
    refine pg_iload (pc := 117) (i := 12) (j := 11) (x := v12) dX11_hanging_117 rfl ?_
    refine pg_ishr (pc := 119) dX11_hanging_119 ?_
    refine pg_iconst (pc := 120) (v := 1) dX11_hanging_120 (by decide) ?_
    refine pg_iand (pc := 121) dX11_hanging_121 ?_
    refine pg_iconst (pc := 122) (v := 1) dX11_hanging_122 (by decide) ?_
    refine pg_icmp_ne (pc := 123) (tgt := 142) dX11_hanging_123 (by decide) (fun c1 => ?_) (fun c1 => ?_)
    · skip
      refine pg_iconst (pc := 142) (v := 0) dX11_hanging_142 (by decide) ?_
      refine pg_iadd (pc := 143) dX11_hanging_143 ?_
      refine pg_istore (pc := 144) (i := 11) (ls' := [(11, .int (v11 + 0)), (0, .ref 207), (1, .int v1), (2, .int v2), (3, .int v3), (4, .int v4), (5, .int v5), (6, .long v6), (8, .int v8), (9, .int v9), (10, .int v10), (12, .int v12)]) dX11_hanging_144 (by decide) rfl ?_
      refine pg_iinc (pc := 146) (i := 12) (j := 11) (x := v12) (v := v12 + 1) (ls' := [(12, .int (v12 + 1)), (11, .int (v11 + 0)), (0, .ref 207), (1, .int v1), (2, .int v2), (3, .int v3), (4, .int v4), (5, .int v5), (6, .long v6), (8, .int v8), (9, .int v9), (10, .int v10)]) dX11_hanging_146 rfl rfl (by decide) rfl ?_
      refine pg_goto (pc := 149) (tgt := 79) dX11_hanging_149 (by decide) ?_
      refine pg_drop (ks := [2, 3, 4, 5, 6, 7, 8, 9, 10, 11, 1, 0]) (ls' := [(0, .ref 207), (1, .int v1), (2, .int v2), (3, .int v3), (4, .int v4), (5, .int v5), (6, .long v6), (8, .int v8), (9, .int v9), (10, .int v10), (11, .int (v11 + 0)), (12, .int (v12 + 1))]) rfl ?_
      exact k1 c0 c1
    · skip
      refine pg_aload_n (pc := 126) (i := 0) (j := 0) (x := 207) dX11_hanging_126 rfl rfl ?_
      refine gfX11_129 (pc := 127) rfl h0 dX11_hanging_127 ?_
      refine pg_bipush (pc := 130) (v := 8) dX11_hanging_130 (by decide) ?_
      refine pg_iload (pc := 132) (i := 4) (j := 4) (x := v4) dX11_hanging_132 rfl ?_
      refine pg_imul (pc := 134) dX11_hanging_134 ?_
      refine pg_iload (pc := 135) (i := 12) (j := 11) (x := v12) dX11_hanging_135 rfl ?_
      refine pg_iadd (pc := 137) dX11_hanging_137 ?_
      refine pg_iald (pc := 138) h0.2.2.2.2.2.2.2.2.2.2.2.2.2.2.2.2.2.2.2.1 (b0 c0) dX11_hanging_138 ?_
      refine pg_goto (pc := 139) (tgt := 143) dX11_hanging_139 (by decide) ?_
      refine pg_iadd (pc := 143) dX11_hanging_143 ?_
      refine pg_istore (pc := 144) (i := 11) (ls' := [(11, .int (v11 + ((pg_si M 226 ((8 * (v4 + 1)) + v12).toNatClampNeg (M.1 226 ((8 * v4) + v12).toNatClampNeg)).1 226 ((8 * v4) + v12).toNatClampNeg))), (0, .ref 207), (1, .int v1), (2, .int v2), (3, .int v3), (4, .int v4), (5, .int v5), (6, .long v6), (8, .int v8), (9, .int v9), (10, .int v10), (12, .int v12)]) dX11_hanging_144 (by decide) rfl ?_
      refine pg_iinc (pc := 146) (i := 12) (j := 11) (x := v12) (v := v12 + 1) (ls' := [(12, .int (v12 + 1)), (11, .int (v11 + ((pg_si M 226 ((8 * (v4 + 1)) + v12).toNatClampNeg (M.1 226 ((8 * v4) + v12).toNatClampNeg)).1 226 ((8 * v4) + v12).toNatClampNeg))), (0, .ref 207), (1, .int v1), (2, .int v2), (3, .int v3), (4, .int v4), (5, .int v5), (6, .long v6), (8, .int v8), (9, .int v9), (10, .int v10)]) dX11_hanging_146 rfl rfl (by decide) rfl ?_
      refine pg_goto (pc := 149) (tgt := 79) dX11_hanging_149 (by decide) ?_
      refine pg_drop (ks := [2, 3, 4, 5, 6, 7, 8, 9, 10, 11, 1, 0]) (ls' := [(0, .ref 207), (1, .int v1), (2, .int v2), (3, .int v3), (4, .int v4), (5, .int v5), (6, .long v6), (8, .int v8), (9, .int v9), (10, .int v10), (11, .int (v11 + ((pg_si M 226 ((8 * (v4 + 1)) + v12).toNatClampNeg (M.1 226 ((8 * v4) + v12).toNatClampNeg)).1 226 ((8 * v4) + v12).toNatClampNeg))), (12, .int (v12 + 1))]) rfl ?_
      exact k2 c0 c1
theorem sX11_hanging_168 {v1 : Int32} {v2 : Int32} {v3 : Int32} {v4 : Int32} {v5 : Int32} {v6 : Int64} {v8 : Int32} {v9 : Int32} {v10 : Int32} {v11 : Int32} {v12 : Int32} {v13 : Int32} {v14 : Int32} 
    (h0 : pg_isX11 Λ)
    (k0 : (8 ≤ v14) → pg_At S Λ YX11_hanging (d + 1) 252 [(0, .ref 207), (1, .int v1), (2, .int v2), (3, .int v3), (4, .int v4), (5, .int v5), (6, .long v6), (8, .int v8), (9, .int v9), (10, .int v10), (11, .int v11), (12, .int v12), (13, .int v13)] [] M P)
    (k1 : (¬ 8 ≤ v14) → ((2 * v12) ≤ v11) → pg_At S Λ YX11_hanging (d + 1) 252 [(0, .ref 207), (1, .int v1), (2, .int v2), (3, .int v3), (4, .int v4), (5, .int v5), (6, .long v6), (8, .int v8), (9, .int v9), (10, .int v10), (11, .int v11), (12, .int v12), (13, .int v13)] [] M P)
    (k2 : (¬ 8 ≤ v14) → (¬ (2 * v12) ≤ v11) → (¬ ((v2 >>> (v14 &&& 31)) &&& 1) = 1) → pg_At S Λ YX11_hanging (d + 1) 168 [(0, .ref 207), (1, .int v1), (2, .int v2), (3, .int v3), (4, .int v4), (5, .int v5), (6, .long v6), (8, .int v8), (9, .int v9), (10, .int v10), (11, .int v11), (12, .int v12), (13, .int v13), (14, .int (v14 + 1))] [] M P)
    (b0 : (¬ 8 ≤ v14) → (¬ (2 * v12) ≤ v11) → (((v2 >>> (v14 &&& 31)) &&& 1) = 1) → vp_in ((8 * (v4 + 1)) + v14) 72)
    (k3 : (¬ 8 ≤ v14) → (¬ (2 * v12) ≤ v11) → (((v2 >>> (v14 &&& 31)) &&& 1) = 1) → (¬ ((pg_si M 226 ((8 * (v4 + 1)) + v14).toNatClampNeg ((M.1 226 ((8 * (v4 + 1)) + v14).toNatClampNeg) - 1)).1 226 ((8 * (v4 + 1)) + v14).toNatClampNeg) = 0) → pg_At S Λ YX11_hanging (d + 1) 168 [(0, .ref 207), (1, .int v1), (2, .int v2), (3, .int v3), (4, .int v4), (5, .int v5), (6, .long v6), (8, .int v8), (9, .int v9), (10, .int v10), (11, .int v11), (12, .int v12), (13, .int (v13 &&& (-1))), (14, .int (v14 + 1))] [] (pg_si M 226 ((8 * (v4 + 1)) + v14).toNatClampNeg ((M.1 226 ((8 * (v4 + 1)) + v14).toNatClampNeg) - 1)) P)
    (k4 : (¬ 8 ≤ v14) → (¬ (2 * v12) ≤ v11) → (((v2 >>> (v14 &&& 31)) &&& 1) = 1) → (((pg_si M 226 ((8 * (v4 + 1)) + v14).toNatClampNeg ((M.1 226 ((8 * (v4 + 1)) + v14).toNatClampNeg) - 1)).1 226 ((8 * (v4 + 1)) + v14).toNatClampNeg) = 0) → pg_At S Λ YX11_hanging (d + 1) 168 [(0, .ref 207), (1, .int v1), (2, .int v2), (3, .int v3), (4, .int v4), (5, .int v5), (6, .long v6), (8, .int v8), (9, .int v9), (10, .int v10), (11, .int v11), (12, .int v12), (13, .int (v13 &&& (((1 : Int32) <<< (v14 &&& 31)) ^^^ (-1)))), (14, .int (v14 + 1))] [] (pg_si M 226 ((8 * (v4 + 1)) + v14).toNatClampNeg ((M.1 226 ((8 * (v4 + 1)) + v14).toNatClampNeg) - 1)) P) :
    pg_At S Λ YX11_hanging (d + 1) 168 [(0, .ref 207), (1, .int v1), (2, .int v2), (3, .int v3), (4, .int v4), (5, .int v5), (6, .long v6), (8, .int v8), (9, .int v9), (10, .int v10), (11, .int v11), (12, .int v12), (13, .int v13), (14, .int v14)] [] M P := by
  refine pg_iload (pc := 168) (i := 14) (j := 13) (x := v14) dX11_hanging_168 rfl ?_
  refine pg_bipush (pc := 170) (v := 8) dX11_hanging_170 (by decide) ?_
  refine pg_icmp_ge (pc := 172) (tgt := 252) dX11_hanging_172 (by decide) (fun c0 => ?_) (fun c0 => ?_)
  · skip
    refine pg_drop (ks := [0, 1, 2, 3, 4, 5, 6, 7, 8, 9, 10, 11, 12]) (ls' := [(0, .ref 207), (1, .int v1), (2, .int v2), (3, .int v3), (4, .int v4), (5, .int v5), (6, .long v6), (8, .int v8), (9, .int v9), (10, .int v10), (11, .int v11), (12, .int v12), (13, .int v13)]) rfl ?_
    exact k0 c0
  · skip
    refine pg_iconst (pc := 175) (v := 2) dX11_hanging_175 (by decide) ?_
    refine pg_iload (pc := 176) (i := 12) (j := 11) (x := v12) dX11_hanging_176 rfl ?_
    refine pg_imul (pc := 178) dX11_hanging_178 ?_
    refine pg_iload (pc := 179) (i := 11) (j := 10) (x := v11) dX11_hanging_179 rfl ?_
    refine pg_icmp_le (pc := 181) (tgt := 252) dX11_hanging_181 (by decide) (fun c1 => ?_) (fun c1 => ?_)
    · skip
      refine pg_drop (ks := [0, 1, 2, 3, 4, 5, 6, 7, 8, 9, 10, 11, 12]) (ls' := [(0, .ref 207), (1, .int v1), (2, .int v2), (3, .int v3), (4, .int v4), (5, .int v5), (6, .long v6), (8, .int v8), (9, .int v9), (10, .int v10), (11, .int v11), (12, .int v12), (13, .int v13)]) rfl ?_
      exact k1 c0 c1
    · skip
      refine pg_iload_n (pc := 184) (i := 2) (j := 2) (x := v2) dX11_hanging_184 rfl rfl ?_
      refine pg_iload (pc := 185) (i := 14) (j := 13) (x := v14) dX11_hanging_185 rfl ?_
      refine pg_ishr (pc := 187) dX11_hanging_187 ?_
      refine pg_iconst (pc := 188) (v := 1) dX11_hanging_188 (by decide) ?_
      refine pg_iand (pc := 189) dX11_hanging_189 ?_
      refine pg_iconst (pc := 190) (v := 1) dX11_hanging_190 (by decide) ?_
      refine pg_icmp_ne (pc := 191) (tgt := 246) dX11_hanging_191 (by decide) (fun c2 => ?_) (fun c2 => ?_)
      · skip
        refine pg_iinc (pc := 246) (i := 14) (j := 13) (x := v14) (v := v14 + 1) (ls' := [(14, .int (v14 + 1)), (0, .ref 207), (1, .int v1), (2, .int v2), (3, .int v3), (4, .int v4), (5, .int v5), (6, .long v6), (8, .int v8), (9, .int v9), (10, .int v10), (11, .int v11), (12, .int v12), (13, .int v13)]) dX11_hanging_246 rfl rfl (by decide) rfl ?_
        refine pg_goto (pc := 249) (tgt := 168) dX11_hanging_249 (by decide) ?_
        refine pg_drop (ks := [1, 2, 3, 4, 5, 6, 7, 8, 9, 10, 11, 12, 13, 0]) (ls' := [(0, .ref 207), (1, .int v1), (2, .int v2), (3, .int v3), (4, .int v4), (5, .int v5), (6, .long v6), (8, .int v8), (9, .int v9), (10, .int v10), (11, .int v11), (12, .int v12), (13, .int v13), (14, .int (v14 + 1))]) rfl ?_
        exact k2 c0 c1 c2
      · skip
        refine pg_aload_n (pc := 194) (i := 0) (j := 0) (x := 207) dX11_hanging_194 rfl rfl ?_
        refine gfX11_129 (pc := 195) rfl h0 dX11_hanging_195 ?_
        refine pg_bipush (pc := 198) (v := 8) dX11_hanging_198 (by decide) ?_
        refine pg_iload (pc := 200) (i := 4) (j := 4) (x := v4) dX11_hanging_200 rfl ?_
        refine pg_iconst (pc := 202) (v := 1) dX11_hanging_202 (by decide) ?_
        refine pg_iadd (pc := 203) dX11_hanging_203 ?_
        refine pg_imul (pc := 204) dX11_hanging_204 ?_
        refine pg_iload (pc := 205) (i := 14) (j := 13) (x := v14) dX11_hanging_205 rfl ?_
        refine pg_iadd (pc := 207) dX11_hanging_207 ?_
        refine pg_dup2_11 (pc := 208) dX11_hanging_208 rfl rfl ?_
        refine pg_iald (pc := 209) h0.2.2.2.2.2.2.2.2.2.2.2.2.2.2.2.2.2.2.2.1 (b0 c0 c1 c2) dX11_hanging_209 ?_
        refine pg_iconst (pc := 210) (v := 1) dX11_hanging_210 (by decide) ?_
        refine pg_isub (pc := 211) dX11_hanging_211 ?_
        refine pg_iast (pc := 212) h0.2.2.2.2.2.2.2.2.2.2.2.2.2.2.2.2.2.2.2.1 (b0 c0 c1 c2) dX11_hanging_212 ?_
        refine pg_iload (pc := 213) (i := 13) (j := 12) (x := v13) dX11_hanging_213 rfl ?_
        refine pg_aload_n (pc := 215) (i := 0) (j := 0) (x := 207) dX11_hanging_215 rfl rfl ?_
        refine gfX11_129 (pc := 216) rfl h0 dX11_hanging_216 ?_
        refine pg_bipush (pc := 219) (v := 8) dX11_hanging_219 (by decide) ?_
        refine pg_iload (pc := 221) (i := 4) (j := 4) (x := v4) dX11_hanging_221 rfl ?_
        refine pg_iconst (pc := 223) (v := 1) dX11_hanging_223 (by decide) ?_
        refine pg_iadd (pc := 224) dX11_hanging_224 ?_
        refine pg_imul (pc := 225) dX11_hanging_225 ?_
        refine pg_iload (pc := 226) (i := 14) (j := 13) (x := v14) dX11_hanging_226 rfl ?_
        refine pg_iadd (pc := 228) dX11_hanging_228 ?_
        refine pg_iald (pc := 229) h0.2.2.2.2.2.2.2.2.2.2.2.2.2.2.2.2.2.2.2.1 (b0 c0 c1 c2) dX11_hanging_229 ?_
        refine pg_if_ne (pc := 230) (tgt := 242) dX11_hanging_230 (by decide) (fun c3 => ?_) (fun c3 => ?_)
        · skip
          refine pg_iconst (pc := 242) (v := (-1)) dX11_hanging_242 (by decide) ?_
          refine pg_iand (pc := 243) dX11_hanging_243 ?_
          refine pg_istore (pc := 244) (i := 13) (ls' := [(13, .int (v13 &&& (-1))), (0, .ref 207), (1, .int v1), (2, .int v2), (3, .int v3), (4, .int v4), (5, .int v5), (6, .long v6), (8, .int v8), (9, .int v9), (10, .int v10), (11, .int v11), (12, .int v12), (14, .int v14)]) dX11_hanging_244 (by decide) rfl ?_
          refine pg_iinc (pc := 246) (i := 14) (j := 13) (x := v14) (v := v14 + 1) (ls' := [(14, .int (v14 + 1)), (13, .int (v13 &&& (-1))), (0, .ref 207), (1, .int v1), (2, .int v2), (3, .int v3), (4, .int v4), (5, .int v5), (6, .long v6), (8, .int v8), (9, .int v9), (10, .int v10), (11, .int v11), (12, .int v12)]) dX11_hanging_246 rfl rfl (by decide) rfl ?_
          refine pg_goto (pc := 249) (tgt := 168) dX11_hanging_249 (by decide) ?_
          refine pg_drop (ks := [2, 3, 4, 5, 6, 7, 8, 9, 10, 11, 12, 13, 1, 0]) (ls' := [(0, .ref 207), (1, .int v1), (2, .int v2), (3, .int v3), (4, .int v4), (5, .int v5), (6, .long v6), (8, .int v8), (9, .int v9), (10, .int v10), (11, .int v11), (12, .int v12), (13, .int (v13 &&& (-1))), (14, .int (v14 + 1))]) rfl ?_
          exact k3 c0 c1 c2 c3
        · skip
          refine pg_iconst (pc := 233) (v := 1) dX11_hanging_233 (by decide) ?_
          refine pg_iload (pc := 234) (i := 14) (j := 13) (x := v14) dX11_hanging_234 rfl ?_
          refine pg_ishl (pc := 236) dX11_hanging_236 ?_
          refine pg_iconst (pc := 237) (v := (-1)) dX11_hanging_237 (by decide) ?_
          refine pg_ixor (pc := 238) dX11_hanging_238 ?_
          refine pg_goto (pc := 239) (tgt := 243) dX11_hanging_239 (by decide) ?_
          refine pg_iand (pc := 243) dX11_hanging_243 ?_
          refine pg_istore (pc := 244) (i := 13) (ls' := [(13, .int (v13 &&& (((1 : Int32) <<< (v14 &&& 31)) ^^^ (-1)))), (0, .ref 207), (1, .int v1), (2, .int v2), (3, .int v3), (4, .int v4), (5, .int v5), (6, .long v6), (8, .int v8), (9, .int v9), (10, .int v10), (11, .int v11), (12, .int v12), (14, .int v14)]) dX11_hanging_244 (by decide) rfl ?_
          refine pg_iinc (pc := 246) (i := 14) (j := 13) (x := v14) (v := v14 + 1) (ls' := [(14, .int (v14 + 1)), (13, .int (v13 &&& (((1 : Int32) <<< (v14 &&& 31)) ^^^ (-1)))), (0, .ref 207), (1, .int v1), (2, .int v2), (3, .int v3), (4, .int v4), (5, .int v5), (6, .long v6), (8, .int v8), (9, .int v9), (10, .int v10), (11, .int v11), (12, .int v12)]) dX11_hanging_246 rfl rfl (by decide) rfl ?_
          refine pg_goto (pc := 249) (tgt := 168) dX11_hanging_249 (by decide) ?_
          refine pg_drop (ks := [2, 3, 4, 5, 6, 7, 8, 9, 10, 11, 12, 13, 1, 0]) (ls' := [(0, .ref 207), (1, .int v1), (2, .int v2), (3, .int v3), (4, .int v4), (5, .int v5), (6, .long v6), (8, .int v8), (9, .int v9), (10, .int v10), (11, .int v11), (12, .int v12), (13, .int (v13 &&& (((1 : Int32) <<< (v14 &&& 31)) ^^^ (-1)))), (14, .int (v14 + 1))]) rfl ?_
          exact k4 c0 c1 c2 c3
theorem sX11_hanging_252 {v1 : Int32} {v2 : Int32} {v3 : Int32} {v4 : Int32} {v5 : Int32} {v6 : Int64} {v8 : Int32} {v9 : Int32} {v10 : Int32} {v11 : Int32} {v12 : Int32} {v13 : Int32} {Q0 : Int32 → pg_M → Prop} {Q1 : Int64 → pg_M → Prop}
    (h0 : pg_isX11 Λ)
    (k0 : (v9 ≤ 0) → pg_At S Λ YX11_hanging (d + 1) 15 [(0, .ref 207), (1, .int v1), (2, .int v2), (3, .int v3), (4, .int v4), (5, .int v5), (6, .long (v6 + 0)), (8, .int (v8 + 1))] [] M P)
    (k1 : (¬ v9 ≤ 0) → (v11 < v12) → pg_At S Λ YX11_hanging (d + 1) 15 [(0, .ref 207), (1, .int v1), (2, .int v2), (3, .int v3), (4, .int v4), (5, .int v5), (6, .long (v6 + 0)), (8, .int (v8 + 1))] [] M P)
    (k2 : (¬ v9 ≤ 0) → (¬ v11 < v12) → (v13 = 0) → pg_At S Λ YX11_hanging (d + 1) 15 [(0, .ref 207), (1, .int v1), (2, .int v2), (3, .int v3), (4, .int v4), (5, .int v5), (6, .long (v6 + 0)), (8, .int (v8 + 1))] [] M P)
    (e0 : (¬ v9 ≤ 0) → (¬ v11 < v12) → (¬ v13 = 0) → pg_Ev S Λ YX11_driedOf d [.ref 207, .int v1, .int v3, .int v10] M (fun r M' => ∃ x, r = some (.int x) ∧ Q0 x M'))
    (e1 : (¬ v9 ≤ 0) → (¬ v11 < v12) → (¬ v13 = 0) → ∀ x1 M1, Q0 x1 M1 → pg_Ev S Λ YX11_hanging d [.ref 207, .int v1, .int v13, .int x1, .int (v4 + 1), .int v5] M1 (fun r M' => ∃ x, r = some (.long x) ∧ Q1 x M'))
    (k3 : (¬ v9 ≤ 0) → (¬ v11 < v12) → (¬ v13 = 0) → ∀ x1 M1, Q0 x1 M1 → ∀ x2 M2, Q1 x2 M2 → pg_At S Λ YX11_hanging (d + 1) 15 [(0, .ref 207), (1, .int v1), (2, .int v2), (3, .int v3), (4, .int v4), (5, .int v5), (6, .long (v6 + (v9.toInt64 * x2))), (8, .int (v8 + 1))] [] M2 P) :
    pg_At S Λ YX11_hanging (d + 1) 252 [(0, .ref 207), (1, .int v1), (2, .int v2), (3, .int v3), (4, .int v4), (5, .int v5), (6, .long v6), (8, .int v8), (9, .int v9), (10, .int v10), (11, .int v11), (12, .int v12), (13, .int v13)] [] M P := by
  refine pg_iload (pc := 252) (i := 9) (j := 8) (x := v9) dX11_hanging_252 rfl ?_
  refine pg_if_le (pc := 254) (tgt := 273) dX11_hanging_254 (by decide) (fun c0 => ?_) (fun c0 => ?_)
  · skip
    refine pg_iconst (pc := 273) (v := 0) dX11_hanging_273 (by decide) ?_
    refine pg_istore (pc := 274) (i := 14) (ls' := [(14, .int 0), (0, .ref 207), (1, .int v1), (2, .int v2), (3, .int v3), (4, .int v4), (5, .int v5), (6, .long v6), (8, .int v8), (9, .int v9), (10, .int v10), (11, .int v11), (12, .int v12), (13, .int v13)]) dX11_hanging_274 (by decide) rfl ?_
    refine pg_lload (pc := 276) (i := 6) (j := 7) (x := v6) dX11_hanging_276 rfl ?_
    refine pg_iload (pc := 278) (i := 14) (j := 0) (x := 0) dX11_hanging_278 rfl ?_
    refine pg_if_eq (pc := 280) (tgt := 311) dX11_hanging_280 (by decide) (fun c1 => ?_) (fun c1 => ?_)
    · skip
      refine pg_lconst (pc := 311) (v := 0) dX11_hanging_311 (by decide) ?_
      refine pg_ladd (pc := 312) dX11_hanging_312 ?_
      refine pg_lstore (pc := 313) (i := 6) (ls' := [(6, .long (v6 + 0)), (14, .int 0), (0, .ref 207), (1, .int v1), (2, .int v2), (3, .int v3), (4, .int v4), (5, .int v5), (8, .int v8), (9, .int v9), (10, .int v10), (11, .int v11), (12, .int v12), (13, .int v13)]) dX11_hanging_313 (by decide) rfl ?_
      refine pg_iinc (pc := 315) (i := 8) (j := 8) (x := v8) (v := v8 + 1) (ls' := [(8, .int (v8 + 1)), (6, .long (v6 + 0)), (14, .int 0), (0, .ref 207), (1, .int v1), (2, .int v2), (3, .int v3), (4, .int v4), (5, .int v5), (9, .int v9), (10, .int v10), (11, .int v11), (12, .int v12), (13, .int v13)]) dX11_hanging_315 rfl rfl (by decide) rfl ?_
      refine pg_goto (pc := 318) (tgt := 15) dX11_hanging_318 (by decide) ?_
      refine pg_drop (ks := [3, 4, 5, 6, 7, 8, 1, 0]) (ls' := [(0, .ref 207), (1, .int v1), (2, .int v2), (3, .int v3), (4, .int v4), (5, .int v5), (6, .long (v6 + 0)), (8, .int (v8 + 1))]) rfl ?_
      exact k0 c0
    · skip
      exact absurd c1 (by decide)
  · skip
    refine pg_iload (pc := 257) (i := 12) (j := 11) (x := v12) dX11_hanging_257 rfl ?_
    refine pg_iload (pc := 259) (i := 11) (j := 10) (x := v11) dX11_hanging_259 rfl ?_
    refine pg_icmp_gt (pc := 261) (tgt := 273) dX11_hanging_261 (by decide) (fun c1 => ?_) (fun c1 => ?_)
    · skip
      refine pg_iconst (pc := 273) (v := 0) dX11_hanging_273 (by decide) ?_
      refine pg_istore (pc := 274) (i := 14) (ls' := [(14, .int 0), (0, .ref 207), (1, .int v1), (2, .int v2), (3, .int v3), (4, .int v4), (5, .int v5), (6, .long v6), (8, .int v8), (9, .int v9), (10, .int v10), (11, .int v11), (12, .int v12), (13, .int v13)]) dX11_hanging_274 (by decide) rfl ?_
      refine pg_lload (pc := 276) (i := 6) (j := 7) (x := v6) dX11_hanging_276 rfl ?_
      refine pg_iload (pc := 278) (i := 14) (j := 0) (x := 0) dX11_hanging_278 rfl ?_
      refine pg_if_eq (pc := 280) (tgt := 311) dX11_hanging_280 (by decide) (fun c2 => ?_) (fun c2 => ?_)
      · skip
        refine pg_lconst (pc := 311) (v := 0) dX11_hanging_311 (by decide) ?_
        refine pg_ladd (pc := 312) dX11_hanging_312 ?_
        refine pg_lstore (pc := 313) (i := 6) (ls' := [(6, .long (v6 + 0)), (14, .int 0), (0, .ref 207), (1, .int v1), (2, .int v2), (3, .int v3), (4, .int v4), (5, .int v5), (8, .int v8), (9, .int v9), (10, .int v10), (11, .int v11), (12, .int v12), (13, .int v13)]) dX11_hanging_313 (by decide) rfl ?_
        refine pg_iinc (pc := 315) (i := 8) (j := 8) (x := v8) (v := v8 + 1) (ls' := [(8, .int (v8 + 1)), (6, .long (v6 + 0)), (14, .int 0), (0, .ref 207), (1, .int v1), (2, .int v2), (3, .int v3), (4, .int v4), (5, .int v5), (9, .int v9), (10, .int v10), (11, .int v11), (12, .int v12), (13, .int v13)]) dX11_hanging_315 rfl rfl (by decide) rfl ?_
        refine pg_goto (pc := 318) (tgt := 15) dX11_hanging_318 (by decide) ?_
        refine pg_drop (ks := [3, 4, 5, 6, 7, 8, 1, 0]) (ls' := [(0, .ref 207), (1, .int v1), (2, .int v2), (3, .int v3), (4, .int v4), (5, .int v5), (6, .long (v6 + 0)), (8, .int (v8 + 1))]) rfl ?_
        exact k1 c0 c1
      · skip
        exact absurd c2 (by decide)
    · skip
      refine pg_iload (pc := 264) (i := 13) (j := 12) (x := v13) dX11_hanging_264 rfl ?_
      refine pg_if_eq (pc := 266) (tgt := 273) dX11_hanging_266 (by decide) (fun c2 => ?_) (fun c2 => ?_)
      · skip
        refine pg_iconst (pc := 273) (v := 0) dX11_hanging_273 (by decide) ?_
        refine pg_istore (pc := 274) (i := 14) (ls' := [(14, .int 0), (0, .ref 207), (1, .int v1), (2, .int v2), (3, .int v3), (4, .int v4), (5, .int v5), (6, .long v6), (8, .int v8), (9, .int v9), (10, .int v10), (11, .int v11), (12, .int v12), (13, .int v13)]) dX11_hanging_274 (by decide) rfl ?_
        refine pg_lload (pc := 276) (i := 6) (j := 7) (x := v6) dX11_hanging_276 rfl ?_
        refine pg_iload (pc := 278) (i := 14) (j := 0) (x := 0) dX11_hanging_278 rfl ?_
        refine pg_if_eq (pc := 280) (tgt := 311) dX11_hanging_280 (by decide) (fun c3 => ?_) (fun c3 => ?_)
        · skip
          refine pg_lconst (pc := 311) (v := 0) dX11_hanging_311 (by decide) ?_
          refine pg_ladd (pc := 312) dX11_hanging_312 ?_
          refine pg_lstore (pc := 313) (i := 6) (ls' := [(6, .long (v6 + 0)), (14, .int 0), (0, .ref 207), (1, .int v1), (2, .int v2), (3, .int v3), (4, .int v4), (5, .int v5), (8, .int v8), (9, .int v9), (10, .int v10), (11, .int v11), (12, .int v12), (13, .int v13)]) dX11_hanging_313 (by decide) rfl ?_
          refine pg_iinc (pc := 315) (i := 8) (j := 8) (x := v8) (v := v8 + 1) (ls' := [(8, .int (v8 + 1)), (6, .long (v6 + 0)), (14, .int 0), (0, .ref 207), (1, .int v1), (2, .int v2), (3, .int v3), (4, .int v4), (5, .int v5), (9, .int v9), (10, .int v10), (11, .int v11), (12, .int v12), (13, .int v13)]) dX11_hanging_315 rfl rfl (by decide) rfl ?_
          refine pg_goto (pc := 318) (tgt := 15) dX11_hanging_318 (by decide) ?_
          refine pg_drop (ks := [3, 4, 5, 6, 7, 8, 1, 0]) (ls' := [(0, .ref 207), (1, .int v1), (2, .int v2), (3, .int v3), (4, .int v4), (5, .int v5), (6, .long (v6 + 0)), (8, .int (v8 + 1))]) rfl ?_
          exact k2 c0 c1 c2
        · skip
          exact absurd c3 (by decide)
      · skip
        refine pg_iconst (pc := 269) (v := 1) dX11_hanging_269 (by decide) ?_
        refine pg_goto (pc := 270) (tgt := 274) dX11_hanging_270 (by decide) ?_
        refine pg_istore (pc := 274) (i := 14) (ls' := [(14, .int 1), (0, .ref 207), (1, .int v1), (2, .int v2), (3, .int v3), (4, .int v4), (5, .int v5), (6, .long v6), (8, .int v8), (9, .int v9), (10, .int v10), (11, .int v11), (12, .int v12), (13, .int v13)]) dX11_hanging_274 (by decide) rfl ?_
        refine pg_lload (pc := 276) (i := 6) (j := 7) (x := v6) dX11_hanging_276 rfl ?_
        refine pg_iload (pc := 278) (i := 14) (j := 0) (x := 1) dX11_hanging_278 rfl ?_
        refine pg_if_eq (pc := 280) (tgt := 311) dX11_hanging_280 (by decide) (fun c3 => ?_) (fun c3 => ?_)
        · skip
          exact absurd c3 (by decide)
        · skip
          refine pg_iload (pc := 283) (i := 9) (j := 9) (x := v9) dX11_hanging_283 rfl ?_
          refine pg_i2l (pc := 285) dX11_hanging_285 rfl ?_
          refine pg_aload_n (pc := 286) (i := 0) (j := 1) (x := 207) dX11_hanging_286 rfl rfl ?_
          refine pg_iload_n (pc := 287) (i := 1) (j := 2) (x := v1) dX11_hanging_287 rfl rfl ?_
          refine pg_iload (pc := 288) (i := 13) (j := 13) (x := v13) dX11_hanging_288 rfl ?_
          refine pg_aload_n (pc := 290) (i := 0) (j := 1) (x := 207) dX11_hanging_290 rfl rfl ?_
          refine pg_iload_n (pc := 291) (i := 1) (j := 2) (x := v1) dX11_hanging_291 rfl rfl ?_
          refine pg_iload_n (pc := 292) (i := 3) (j := 4) (x := v3) dX11_hanging_292 rfl rfl ?_
          refine pg_iload (pc := 293) (i := 10) (j := 10) (x := v10) dX11_hanging_293 rfl ?_
          refine pg_callV (pc := 295) (As := [.int v1, .int v3, .int v10]) (st := [.int v13, .int v1, .ref 207, .long v9.toInt64, .long v6]) okX11_driedOf lkX11_340 rfl h0.1 rfl (Nat.le_refl _) (Nat.le_of_ble_eq_true rfl) (e0 c0 c1 c2) dX11_hanging_295 (fun r1 M1 w1 => ?_)
          obtain ⟨x1, rfl, w1⟩ := w1
          refine pg_iload (pc := 298) (i := 4) (j := 5) (x := v4) dX11_hanging_298 rfl ?_
          refine pg_iconst (pc := 300) (v := 1) dX11_hanging_300 (by decide) ?_
          refine pg_iadd (pc := 301) dX11_hanging_301 ?_
          refine pg_iload (pc := 302) (i := 5) (j := 6) (x := v5) dX11_hanging_302 rfl ?_
          refine pg_callV (pc := 304) (As := [.int v1, .int v13, .int x1, .int (v4 + 1), .int v5]) (st := [.long v9.toInt64, .long v6]) okX11_hanging lkX11_404 rfl h0.1 rfl (Nat.le_refl _) (Nat.le_of_ble_eq_true rfl) (e1 c0 c1 c2 x1 M1 w1) dX11_hanging_304 (fun r2 M2 w2 => ?_)
          obtain ⟨x2, rfl, w2⟩ := w2
          refine pg_lmul (pc := 307) dX11_hanging_307 ?_
          refine pg_goto (pc := 308) (tgt := 312) dX11_hanging_308 (by decide) ?_
          refine pg_ladd (pc := 312) dX11_hanging_312 ?_
          refine pg_lstore (pc := 313) (i := 6) (ls' := [(6, .long (v6 + (v9.toInt64 * x2))), (14, .int 1), (0, .ref 207), (1, .int v1), (2, .int v2), (3, .int v3), (4, .int v4), (5, .int v5), (8, .int v8), (9, .int v9), (10, .int v10), (11, .int v11), (12, .int v12), (13, .int v13)]) dX11_hanging_313 (by decide) rfl ?_
          refine pg_iinc (pc := 315) (i := 8) (j := 8) (x := v8) (v := v8 + 1) (ls' := [(8, .int (v8 + 1)), (6, .long (v6 + (v9.toInt64 * x2))), (14, .int 1), (0, .ref 207), (1, .int v1), (2, .int v2), (3, .int v3), (4, .int v4), (5, .int v5), (9, .int v9), (10, .int v10), (11, .int v11), (12, .int v12), (13, .int v13)]) dX11_hanging_315 rfl rfl (by decide) rfl ?_
          refine pg_goto (pc := 318) (tgt := 15) dX11_hanging_318 (by decide) ?_
          refine pg_drop (ks := [3, 4, 5, 6, 7, 8, 1, 0]) (ls' := [(0, .ref 207), (1, .int v1), (2, .int v2), (3, .int v3), (4, .int v4), (5, .int v5), (6, .long (v6 + (v9.toInt64 * x2))), (8, .int (v8 + 1))]) rfl ?_
          exact k3 c0 c1 c2 x1 M1 w1 x2 M2 w2
theorem oX11_hanging {d : Nat} {v1 : Int32} {v2 : Int32} {v3 : Int32} {v4 : Int32} {v5 : Int32} (h : pg_At S Λ YX11_hanging d 0 [(0, .ref 207), (1, .int v1), (2, .int v2), (3, .int v3), (4, .int v4), (5, .int v5)] [] M P) : pg_Ev S Λ YX11_hanging d [.ref 207, .int v1, .int v2, .int v3, .int v4, .int v5] M P := pg_Ev.of (by decide) (by first | decide | exact Nat.le_of_ble_eq_true rfl) h
theorem sX11_odds_0 {v1 : Int32} {v2 : Int32} {Q0 : Int32 → pg_M → Prop} {Q1 : Int32 → pg_M → Prop} {Q2 : Int32 → pg_M → Prop}
    (h0 : pg_isX11 Λ)
    (e0 : pg_Ev S Λ YX11_isCloth d [.ref 207, .int v1] (pg_si M 207 0 0) (fun r M' => ∃ x, r = some (.int x) ∧ Q0 x M'))
    (k0 : ∀ x1 M1, Q0 x1 M1 → (x1 = 0) → P (some (.int (-1))) M1)
    (e1 : ∀ x1 M1, Q0 x1 M1 → (¬ x1 = 0) → pg_Ev S Λ YX11_within d [.int v2, .int 1, .int 8] M1 (fun r M' => ∃ x, r = some (.int x) ∧ Q1 x M'))
    (k1 : ∀ x1 M1, Q0 x1 M1 → (¬ x1 = 0) → ∀ x2 M2, Q1 x2 M2 → (x2 = 0) → P (some (.int (-1))) M2)
    (e2 : ∀ x1 M1, Q0 x1 M1 → (¬ x1 = 0) → ∀ x2 M2, Q1 x2 M2 → (¬ x2 = 0) → pg_Ev S Λ YX11_isHung d [.ref 207, .int 0, .int v1] M2 (fun r M' => ∃ x, r = some (.int x) ∧ Q2 x M'))
    (k2 : ∀ x1 M1, Q0 x1 M1 → (¬ x1 = 0) → ∀ x2 M2, Q1 x2 M2 → (¬ x2 = 0) → ∀ x3 M3, Q2 x3 M3 → (¬ x3 = 0) → pg_At S Λ YX11_odds (d + 1) 36 [(0, .ref 207), (1, .int v1), (2, .int v2), (3, .int 0)] [] M3 P)
    (k3 : ∀ x1 M1, Q0 x1 M1 → (¬ x1 = 0) → ∀ x2 M2, Q1 x2 M2 → (¬ x2 = 0) → ∀ x3 M3, Q2 x3 M3 → (x3 = 0) → P (some (.int (-1))) M3) :
    pg_At S Λ YX11_odds (d + 1) 0 [(0, .ref 207), (1, .int v1), (2, .int v2)] [] M P := by
  refine pg_aload_n (pc := 0) (i := 0) (j := 0) (x := 207) dX11_odds_0 rfl rfl ?_
  refine pg_iconst (pc := 1) (v := 0) dX11_odds_1 (by decide) ?_
  refine pfX11_1 (pc := 2) rfl h0 dX11_odds_2 ?_
  refine pg_aload_n (pc := 5) (i := 0) (j := 0) (x := 207) dX11_odds_5 rfl rfl ?_
  refine pg_iload_n (pc := 6) (i := 1) (j := 1) (x := v1) dX11_odds_6 rfl rfl ?_
  refine pg_callV (pc := 7) (As := [.int v1]) (st := []) okX11_isCloth lkX11_346 rfl h0.1 rfl (Nat.le_refl _) (Nat.le_of_ble_eq_true rfl) e0 dX11_odds_7 (fun r1 M1 w1 => ?_)
  obtain ⟨x1, rfl, w1⟩ := w1
  refine pg_if_eq (pc := 10) (tgt := 32) dX11_odds_10 (by decide) (fun c0 => ?_) (fun c0 => ?_)
  · skip
    refine pg_iconst (pc := 32) (v := (-1)) dX11_odds_32 (by decide) ?_
    exact pg_iret (pc := 33) rfl dX11_odds_33 (k0 x1 M1 w1 c0)
  · skip
    refine pg_iload_n (pc := 13) (i := 2) (j := 2) (x := v2) dX11_odds_13 rfl rfl ?_
    refine pg_iconst (pc := 14) (v := 1) dX11_odds_14 (by decide) ?_
    refine pg_bipush (pc := 15) (v := 8) dX11_odds_15 (by decide) ?_
    refine pg_callS (pc := 17) (As := [.int v2, .int 1, .int 8]) (st := []) okX11_within lkX11_349 rfl (Nat.le_refl _) (Nat.le_of_ble_eq_true rfl) (e1 x1 M1 w1 c0) dX11_odds_17 (fun r2 M2 w2 => ?_)
    obtain ⟨x2, rfl, w2⟩ := w2
    refine pg_if_eq (pc := 20) (tgt := 32) dX11_odds_20 (by decide) (fun c1 => ?_) (fun c1 => ?_)
    · skip
      refine pg_iconst (pc := 32) (v := (-1)) dX11_odds_32 (by decide) ?_
      exact pg_iret (pc := 33) rfl dX11_odds_33 (k1 x1 M1 w1 c0 x2 M2 w2 c1)
    · skip
      refine pg_aload_n (pc := 23) (i := 0) (j := 0) (x := 207) dX11_odds_23 rfl rfl ?_
      refine pg_iconst (pc := 24) (v := 0) dX11_odds_24 (by decide) ?_
      refine pg_iload_n (pc := 25) (i := 1) (j := 1) (x := v1) dX11_odds_25 rfl rfl ?_
      refine pg_callV (pc := 26) (As := [.int 0, .int v1]) (st := []) okX11_isHung lkX11_304 rfl h0.1 rfl (Nat.le_refl _) (Nat.le_of_ble_eq_true rfl) (e2 x1 M1 w1 c0 x2 M2 w2 c1) dX11_odds_26 (fun r3 M3 w3 => ?_)
      obtain ⟨x3, rfl, w3⟩ := w3
      refine pg_if_ne (pc := 29) (tgt := 34) dX11_odds_29 (by decide) (fun c2 => ?_) (fun c2 => ?_)
      · skip
        refine pg_iconst (pc := 34) (v := 0) dX11_odds_34 (by decide) ?_
        refine pg_istore_n (pc := 35) (i := 3) (ls' := [(3, .int 0), (0, .ref 207), (1, .int v1), (2, .int v2)]) dX11_odds_35 rfl (by decide) rfl ?_
        refine pg_drop (ks := [1, 2, 3, 0]) (ls' := [(0, .ref 207), (1, .int v1), (2, .int v2), (3, .int 0)]) rfl ?_
        exact k2 x1 M1 w1 c0 x2 M2 w2 c1 x3 M3 w3 c2
      · skip
        refine pg_iconst (pc := 32) (v := (-1)) dX11_odds_32 (by decide) ?_
        exact pg_iret (pc := 33) rfl dX11_odds_33 (k3 x1 M1 w1 c0 x2 M2 w2 c1 x3 M3 w3 c2)
theorem sX11_odds_36 {v1 : Int32} {v2 : Int32} {v3 : Int32} 
    (h0 : pg_isX11 Λ)
    (k0 : (8 ≤ v3) → pg_At S Λ YX11_odds (d + 1) 68 [(0, .ref 207), (1, .int v1), (2, .int v2), (3, .long 1), (5, .int 0)] [] M P)
    (b0 : (¬ 8 ≤ v3) → vp_in (20 + v3) 1242)
    (b1 : (¬ 8 ≤ v3) → vp_in v3 72)
    (k1 : (¬ 8 ≤ v3) → pg_At S Λ YX11_odds (d + 1) 36 [(0, .ref 207), (1, .int v1), (2, .int v2), (3, .int (v3 + 1))] [] (pg_si M 226 v3.toNatClampNeg (M.1 221 (20 + v3).toNatClampNeg)) P) :
    pg_At S Λ YX11_odds (d + 1) 36 [(0, .ref 207), (1, .int v1), (2, .int v2), (3, .int v3)] [] M P := by
  refine pg_iload_n (pc := 36) (i := 3) (j := 3) (x := v3) dX11_odds_36 rfl rfl ?_
  refine pg_bipush (pc := 37) (v := 8) dX11_odds_37 (by decide) ?_
  refine pg_icmp_ge (pc := 39) (tgt := 63) dX11_odds_39 (by decide) (fun c0 => ?_) (fun c0 => ?_)
  · skip
    refine pg_lconst (pc := 63) (v := 1) dX11_odds_63 (by decide) ?_
    refine pg_lstore_n (pc := 64) (i := 3) (ls' := [(3, .long 1), (0, .ref 207), (1, .int v1), (2, .int v2)]) dX11_odds_64 rfl (by decide) rfl ?_
    refine pg_iconst (pc := 65) (v := 0) dX11_odds_65 (by decide) ?_
    refine pg_istore (pc := 66) (i := 5) (ls' := [(5, .int 0), (3, .long 1), (0, .ref 207), (1, .int v1), (2, .int v2)]) dX11_odds_66 (by decide) rfl ?_
    refine pg_drop (ks := [2, 3, 4, 1, 0]) (ls' := [(0, .ref 207), (1, .int v1), (2, .int v2), (3, .long 1), (5, .int 0)]) rfl ?_
    exact k0 c0
  · skip
    refine pg_aload_n (pc := 42) (i := 0) (j := 0) (x := 207) dX11_odds_42 rfl rfl ?_
    refine gfX11_129 (pc := 43) rfl h0 dX11_odds_43 ?_
    refine pg_iload_n (pc := 46) (i := 3) (j := 3) (x := v3) dX11_odds_46 rfl rfl ?_
    refine pg_aload_n (pc := 47) (i := 0) (j := 0) (x := 207) dX11_odds_47 rfl rfl ?_
    refine gfX11_113 (pc := 48) rfl h0 dX11_odds_48 ?_
    refine pg_bipush (pc := 51) (v := 20) dX11_odds_51 (by decide) ?_
    refine pg_iload_n (pc := 53) (i := 3) (j := 3) (x := v3) dX11_odds_53 rfl rfl ?_
    refine pg_iadd (pc := 54) dX11_odds_54 ?_
    refine pg_iald (pc := 55) h0.2.2.2.2.2.2.2.2.2.2.2.2.2.2.1 (b0 c0) dX11_odds_55 ?_
    refine pg_iast (pc := 56) h0.2.2.2.2.2.2.2.2.2.2.2.2.2.2.2.2.2.2.2.1 (b1 c0) dX11_odds_56 ?_
    refine pg_iinc (pc := 57) (i := 3) (j := 3) (x := v3) (v := v3 + 1) (ls' := [(3, .int (v3 + 1)), (0, .ref 207), (1, .int v1), (2, .int v2)]) dX11_odds_57 rfl rfl (by decide) rfl ?_
    refine pg_goto (pc := 60) (tgt := 36) dX11_odds_60 (by decide) ?_
    refine pg_drop (ks := [1, 2, 3, 0]) (ls' := [(0, .ref 207), (1, .int v1), (2, .int v2), (3, .int (v3 + 1))]) rfl ?_
    exact k1 c0
theorem sX11_odds_68 {v1 : Int32} {v2 : Int32} {v3 : Int64} {v5 : Int32} {Q0 : Int64 → pg_M → Prop}
    (h0 : pg_isX11 Λ)
    (b0 : (v2 ≤ v5) → vp_in (14 + v1) 1242)
    (b1 : (v2 ≤ v5) → vp_in (2 + v1) 1242)
    (e0 : (v2 ≤ v5) → pg_Ev S Λ YX11_hanging d [.ref 207, .int v1, .int (M.1 221 (14 + v1).toNatClampNeg), .int (M.1 221 (2 + v1).toNatClampNeg), .int 0, .int v2] M (fun r M' => ∃ x, r = some (.long x) ∧ Q0 x M'))
    (b2 : (v2 ≤ v5) → ∀ x1 M1, Q0 x1 M1 → ¬ v3 = 0)
    (k0 : (v2 ≤ v5) → ∀ x1 M1, Q0 x1 M1 → P (some (.int (((x1 * 1000000) / v3).toInt32))) M1)
    (k1 : (¬ v2 ≤ v5) → pg_At S Λ YX11_odds (d + 1) 68 [(0, .ref 207), (1, .int v1), (2, .int v2), (3, .long (v3 * 10)), (5, .int (v5 + 1))] [] M P) :
    pg_At S Λ YX11_odds (d + 1) 68 [(0, .ref 207), (1, .int v1), (2, .int v2), (3, .long v3), (5, .int v5)] [] M P := by
  refine pg_iload (pc := 68) (i := 5) (j := 4) (x := v5) dX11_odds_68 rfl ?_
  refine pg_iload_n (pc := 70) (i := 2) (j := 2) (x := v2) dX11_odds_70 rfl rfl ?_
  refine pg_icmp_ge (pc := 71) (tgt := 86) dX11_odds_71 (by decide) (fun c0 => ?_) (fun c0 => ?_)
  · skip
    refine pg_aload_n (pc := 86) (i := 0) (j := 0) (x := 207) dX11_odds_86 rfl rfl ?_
    refine pg_iload_n (pc := 87) (i := 1) (j := 1) (x := v1) dX11_odds_87 rfl rfl ?_
    refine pg_aload_n (pc := 88) (i := 0) (j := 0) (x := 207) dX11_odds_88 rfl rfl ?_
    refine gfX11_113 (pc := 89) rfl h0 dX11_odds_89 ?_
    refine pg_bipush (pc := 92) (v := 14) dX11_odds_92 (by decide) ?_
    refine pg_iload_n (pc := 94) (i := 1) (j := 1) (x := v1) dX11_odds_94 rfl rfl ?_
    refine pg_iadd (pc := 95) dX11_odds_95 ?_
    refine pg_iald (pc := 96) h0.2.2.2.2.2.2.2.2.2.2.2.2.2.2.1 (b0 c0) dX11_odds_96 ?_
    refine pg_aload_n (pc := 97) (i := 0) (j := 0) (x := 207) dX11_odds_97 rfl rfl ?_
    refine gfX11_113 (pc := 98) rfl h0 dX11_odds_98 ?_
    refine pg_iconst (pc := 101) (v := 2) dX11_odds_101 (by decide) ?_
    refine pg_iload_n (pc := 102) (i := 1) (j := 1) (x := v1) dX11_odds_102 rfl rfl ?_
    refine pg_iadd (pc := 103) dX11_odds_103 ?_
    refine pg_iald (pc := 104) h0.2.2.2.2.2.2.2.2.2.2.2.2.2.2.1 (b1 c0) dX11_odds_104 ?_
    refine pg_iconst (pc := 105) (v := 0) dX11_odds_105 (by decide) ?_
    refine pg_iload_n (pc := 106) (i := 2) (j := 2) (x := v2) dX11_odds_106 rfl rfl ?_
    refine pg_callV (pc := 107) (As := [.int v1, .int (M.1 221 (14 + v1).toNatClampNeg), .int (M.1 221 (2 + v1).toNatClampNeg), .int 0, .int v2]) (st := []) okX11_hanging lkX11_404 rfl h0.1 rfl (Nat.le_refl _) (Nat.le_of_ble_eq_true rfl) (e0 c0) dX11_odds_107 (fun r1 M1 w1 => ?_)
    obtain ⟨x1, rfl, w1⟩ := w1
    refine pg_ldc2 (pc := 110) (v := 1000000) kX11_408 dX11_odds_110 ?_
    refine pg_lmul (pc := 113) dX11_odds_113 ?_
    refine pg_lload_n (pc := 114) (i := 3) (j := 3) (x := v3) dX11_odds_114 rfl rfl ?_
    refine pg_ldiv (pc := 115) dX11_odds_115 (b2 c0 x1 M1 w1) ?_
    refine pg_l2i (pc := 116) dX11_odds_116 rfl ?_
    exact pg_iret (pc := 117) rfl dX11_odds_117 (k0 c0 x1 M1 w1)
  · skip
    refine pg_lload_n (pc := 74) (i := 3) (j := 3) (x := v3) dX11_odds_74 rfl rfl ?_
    refine pg_ldc2 (pc := 75) (v := 10) kX11_167 dX11_odds_75 ?_
    refine pg_lmul (pc := 78) dX11_odds_78 ?_
    refine pg_lstore_n (pc := 79) (i := 3) (ls' := [(3, .long (v3 * 10)), (0, .ref 207), (1, .int v1), (2, .int v2), (5, .int v5)]) dX11_odds_79 rfl (by decide) rfl ?_
    refine pg_iinc (pc := 80) (i := 5) (j := 4) (x := v5) (v := v5 + 1) (ls' := [(5, .int (v5 + 1)), (3, .long (v3 * 10)), (0, .ref 207), (1, .int v1), (2, .int v2)]) dX11_odds_80 rfl rfl (by decide) rfl ?_
    refine pg_goto (pc := 83) (tgt := 68) dX11_odds_83 (by decide) ?_
    refine pg_drop (ks := [2, 3, 4, 1, 0]) (ls' := [(0, .ref 207), (1, .int v1), (2, .int v2), (3, .long (v3 * 10)), (5, .int (v5 + 1))]) rfl ?_
    exact k1 c0
theorem oX11_odds {d : Nat} {v1 : Int32} {v2 : Int32} (h : pg_At S Λ YX11_odds d 0 [(0, .ref 207), (1, .int v1), (2, .int v2)] [] M P) : pg_Ev S Λ YX11_odds d [.ref 207, .int v1, .int v2] M P := pg_Ev.of (by decide) (by first | decide | exact Nat.le_of_ble_eq_true rfl) h
theorem sX11_driedBehind_0 {v1 : Int32} {v2 : Int32} 
    (k0 : pg_At S Λ YX11_driedBehind (d + 1) 6 [(0, .ref 207), (1, .int v1), (3, .int 9), (4, .int v2)] [] M P) :
    pg_At S Λ YX11_driedBehind (d + 1) 0 [(0, .ref 207), (1, .int v1), (2, .int v2)] [] M P := by
  refine pg_bipush (pc := 0) (v := 9) dX11_driedBehind_0 (by decide) ?_
  refine pg_istore_n (pc := 2) (i := 3) (ls' := [(3, .int 9), (0, .ref 207), (1, .int v1), (2, .int v2)]) dX11_driedBehind_2 rfl (by decide) rfl ?_
  refine pg_iload_n (pc := 3) (i := 2) (j := 3) (x := v2) dX11_driedBehind_3 rfl rfl ?_
  refine pg_istore (pc := 4) (i := 4) (ls' := [(4, .int v2), (3, .int 9), (0, .ref 207), (1, .int v1), (2, .int v2)]) dX11_driedBehind_4 (by decide) rfl ?_
  refine pg_drop (ks := [2, 3, 1, 0]) (ls' := [(0, .ref 207), (1, .int v1), (3, .int 9), (4, .int v2)]) rfl ?_
  exact k0
theorem sX11_driedBehind_6 {v1 : Int32} {v3 : Int32} {v4 : Int32} {Q0 : Int32 → pg_M → Prop} {Q1 : Int32 → pg_M → Prop}
    (h0 : pg_isX11 Λ)
    (k0 : (v3 ≤ 0) → (v3 ≤ 0) → P (some (.int v4)) M)
    (k1 : (v3 ≤ 0) → (¬ v3 ≤ 0) → P (some (.int 100)) M)
    (k2 : (¬ v3 ≤ 0) → (100 ≤ v4) → (v3 ≤ 0) → P (some (.int v4)) M)
    (k3 : (¬ v3 ≤ 0) → (100 ≤ v4) → (¬ v3 ≤ 0) → P (some (.int 100)) M)
    (e0 : (¬ v3 ≤ 0) → (¬ 100 ≤ v4) → pg_Ev S Λ YX11_windOf d [.ref 207, .int ((M.1 221 (0 : Int32).toNatClampNeg) + v4), .int 0] M (fun r M' => ∃ x, r = some (.int x) ∧ Q0 x M'))
    (e1 : (¬ v3 ≤ 0) → (¬ 100 ≤ v4) → ∀ x1 M1, Q0 x1 M1 → pg_Ev S Λ YX11_driedOf d [.ref 207, .int v1, .int v3, .int x1] M1 (fun r M' => ∃ x, r = some (.int x) ∧ Q1 x M'))
    (k4 : (¬ v3 ≤ 0) → (¬ 100 ≤ v4) → ∀ x1 M1, Q0 x1 M1 → ∀ x2 M2, Q1 x2 M2 → pg_At S Λ YX11_driedBehind (d + 1) 6 [(0, .ref 207), (1, .int v1), (3, .int x2), (4, .int (v4 + 1))] [] M2 P) :
    pg_At S Λ YX11_driedBehind (d + 1) 6 [(0, .ref 207), (1, .int v1), (3, .int v3), (4, .int v4)] [] M P := by
  refine pg_iload_n (pc := 6) (i := 3) (j := 2) (x := v3) dX11_driedBehind_6 rfl rfl ?_
  refine pg_if_le (pc := 7) (tgt := 44) dX11_driedBehind_7 (by decide) (fun c0 => ?_) (fun c0 => ?_)
  · skip
    refine pg_iload_n (pc := 44) (i := 3) (j := 2) (x := v3) dX11_driedBehind_44 rfl rfl ?_
    refine pg_if_le (pc := 45) (tgt := 53) dX11_driedBehind_45 (by decide) (fun c1 => ?_) (fun c1 => ?_)
    · skip
      refine pg_iload (pc := 53) (i := 4) (j := 3) (x := v4) dX11_driedBehind_53 rfl ?_
      exact pg_iret (pc := 55) rfl dX11_driedBehind_55 (k0 c0 c1)
    · skip
      refine pg_bipush (pc := 48) (v := 100) dX11_driedBehind_48 (by decide) ?_
      refine pg_goto (pc := 50) (tgt := 55) dX11_driedBehind_50 (by decide) ?_
      exact pg_iret (pc := 55) rfl dX11_driedBehind_55 (k1 c0 c1)
  · skip
    refine pg_iload (pc := 10) (i := 4) (j := 3) (x := v4) dX11_driedBehind_10 rfl ?_
    refine pg_bipush (pc := 12) (v := 100) dX11_driedBehind_12 (by decide) ?_
    refine pg_icmp_ge (pc := 14) (tgt := 44) dX11_driedBehind_14 (by decide) (fun c1 => ?_) (fun c1 => ?_)
    · skip
      refine pg_iload_n (pc := 44) (i := 3) (j := 2) (x := v3) dX11_driedBehind_44 rfl rfl ?_
      refine pg_if_le (pc := 45) (tgt := 53) dX11_driedBehind_45 (by decide) (fun c2 => ?_) (fun c2 => ?_)
      · skip
        refine pg_iload (pc := 53) (i := 4) (j := 3) (x := v4) dX11_driedBehind_53 rfl ?_
        exact pg_iret (pc := 55) rfl dX11_driedBehind_55 (k2 c0 c1 c2)
      · skip
        refine pg_bipush (pc := 48) (v := 100) dX11_driedBehind_48 (by decide) ?_
        refine pg_goto (pc := 50) (tgt := 55) dX11_driedBehind_50 (by decide) ?_
        exact pg_iret (pc := 55) rfl dX11_driedBehind_55 (k3 c0 c1 c2)
    · skip
      refine pg_aload_n (pc := 17) (i := 0) (j := 0) (x := 207) dX11_driedBehind_17 rfl rfl ?_
      refine pg_iload_n (pc := 18) (i := 1) (j := 1) (x := v1) dX11_driedBehind_18 rfl rfl ?_
      refine pg_iload_n (pc := 19) (i := 3) (j := 2) (x := v3) dX11_driedBehind_19 rfl rfl ?_
      refine pg_aload_n (pc := 20) (i := 0) (j := 0) (x := 207) dX11_driedBehind_20 rfl rfl ?_
      refine pg_aload_n (pc := 21) (i := 0) (j := 0) (x := 207) dX11_driedBehind_21 rfl rfl ?_
      refine gfX11_113 (pc := 22) rfl h0 dX11_driedBehind_22 ?_
      refine pg_iconst (pc := 25) (v := 0) dX11_driedBehind_25 (by decide) ?_
      refine pg_iald (pc := 26) h0.2.2.2.2.2.2.2.2.2.2.2.2.2.2.1 (by unfold vp_in; decide) dX11_driedBehind_26 ?_
      refine pg_iload (pc := 27) (i := 4) (j := 3) (x := v4) dX11_driedBehind_27 rfl ?_
      refine pg_iadd (pc := 29) dX11_driedBehind_29 ?_
      refine pg_iconst (pc := 30) (v := 0) dX11_driedBehind_30 (by decide) ?_
      refine pg_callV (pc := 31) (As := [.int ((M.1 221 (0 : Int32).toNatClampNeg) + v4), .int 0]) (st := [.int v3, .int v1, .ref 207]) okX11_windOf lkX11_332 rfl h0.1 rfl (Nat.le_refl _) (Nat.le_of_ble_eq_true rfl) (e0 c0 c1) dX11_driedBehind_31 (fun r1 M1 w1 => ?_)
      obtain ⟨x1, rfl, w1⟩ := w1
      refine pg_callV (pc := 34) (As := [.int v1, .int v3, .int x1]) (st := []) okX11_driedOf lkX11_340 rfl h0.1 rfl (Nat.le_refl _) (Nat.le_of_ble_eq_true rfl) (e1 c0 c1 x1 M1 w1) dX11_driedBehind_34 (fun r2 M2 w2 => ?_)
      obtain ⟨x2, rfl, w2⟩ := w2
      refine pg_istore_n (pc := 37) (i := 3) (ls' := [(3, .int x2), (0, .ref 207), (1, .int v1), (4, .int v4)]) dX11_driedBehind_37 rfl (by decide) rfl ?_
      refine pg_iinc (pc := 38) (i := 4) (j := 3) (x := v4) (v := v4 + 1) (ls' := [(4, .int (v4 + 1)), (3, .int x2), (0, .ref 207), (1, .int v1)]) dX11_driedBehind_38 rfl rfl (by decide) rfl ?_
      refine pg_goto (pc := 41) (tgt := 6) dX11_driedBehind_41 (by decide) ?_
      refine pg_drop (ks := [2, 3, 1, 0]) (ls' := [(0, .ref 207), (1, .int v1), (3, .int x2), (4, .int (v4 + 1))]) rfl ?_
      exact k4 c0 c1 x1 M1 w1 x2 M2 w2
theorem oX11_driedBehind {d : Nat} {v1 : Int32} {v2 : Int32} (h : pg_At S Λ YX11_driedBehind d 0 [(0, .ref 207), (1, .int v1), (2, .int v2)] [] M P) : pg_Ev S Λ YX11_driedBehind d [.ref 207, .int v1, .int v2] M P := pg_Ev.of (by decide) (by first | decide | exact Nat.le_of_ble_eq_true rfl) h
theorem sX11_washesFrom_0 {v1 : Int32} {v2 : Int32} {v3 : Int32} 
    (h0 : pg_isX11 Λ)
    (k0 : (¬ v2 = (M.1 207 35)) → pg_At S Λ YX11_washesFrom (d + 1) 54 [(0, .ref 207), (1, .int v1), (2, .int v2), (3, .int v3), (4, .int 0)] [] M P)
    (k1 : (v2 = (M.1 207 35)) → ((M.1 207 34) ≤ v3) → P none M)
    (k2 : (v2 = (M.1 207 35)) → (¬ (M.1 207 34) ≤ v3) → pg_At S Λ YX11_washesFrom (d + 1) 24 [(0, .ref 207), (1, .int v1), (4, .int 0)] [] (pg_si M 207 34 v3) P) :
    pg_At S Λ YX11_washesFrom (d + 1) 0 [(0, .ref 207), (1, .int v1), (2, .int v2), (3, .int v3)] [] M P := by
  refine pg_iload_n (pc := 0) (i := 2) (j := 2) (x := v2) dX11_washesFrom_0 rfl rfl ?_
  refine pg_aload_n (pc := 1) (i := 0) (j := 0) (x := 207) dX11_washesFrom_1 rfl rfl ?_
  refine gfX11_410 (pc := 2) rfl h0 dX11_washesFrom_2 ?_
  refine pg_icmp_ne (pc := 5) (tgt := 51) dX11_washesFrom_5 (by decide) (fun c0 => ?_) (fun c0 => ?_)
  · skip
    refine pg_iconst (pc := 51) (v := 0) dX11_washesFrom_51 (by decide) ?_
    refine pg_istore (pc := 52) (i := 4) (ls' := [(4, .int 0), (0, .ref 207), (1, .int v1), (2, .int v2), (3, .int v3)]) dX11_washesFrom_52 (by decide) rfl ?_
    refine pg_drop (ks := [1, 2, 3, 4, 0]) (ls' := [(0, .ref 207), (1, .int v1), (2, .int v2), (3, .int v3), (4, .int 0)]) rfl ?_
    exact k0 c0
  · skip
    refine pg_iload_n (pc := 8) (i := 3) (j := 3) (x := v3) dX11_washesFrom_8 rfl rfl ?_
    refine pg_aload_n (pc := 9) (i := 0) (j := 0) (x := 207) dX11_washesFrom_9 rfl rfl ?_
    refine gfX11_413 (pc := 10) rfl h0 dX11_washesFrom_10 ?_
    refine pg_icmp_ge (pc := 13) (tgt := 50) dX11_washesFrom_13 (by decide) (fun c1 => ?_) (fun c1 => ?_)
    · skip
      exact pg_vret (pc := 50) rfl dX11_washesFrom_50 (k1 c0 c1)
    · skip
      refine pg_aload_n (pc := 16) (i := 0) (j := 0) (x := 207) dX11_washesFrom_16 rfl rfl ?_
      refine pg_iload_n (pc := 17) (i := 3) (j := 3) (x := v3) dX11_washesFrom_17 rfl rfl ?_
      refine pfX11_413 (pc := 18) rfl h0 dX11_washesFrom_18 ?_
      refine pg_iconst (pc := 21) (v := 0) dX11_washesFrom_21 (by decide) ?_
      refine pg_istore (pc := 22) (i := 4) (ls' := [(4, .int 0), (0, .ref 207), (1, .int v1), (2, .int v2), (3, .int v3)]) dX11_washesFrom_22 (by decide) rfl ?_
      refine pg_drop (ks := [1, 2, 0]) (ls' := [(0, .ref 207), (1, .int v1), (4, .int 0)]) rfl ?_
      exact k2 c0 c1
theorem sX11_washesFrom_54 {v1 : Int32} {v2 : Int32} {v3 : Int32} {v4 : Int32} {Q0 : Int32 → pg_M → Prop} {Q1 : pg_M → Prop} {Q2 : pg_M → Prop}
    (h0 : pg_isX11 Λ)
    (e0 : pg_Ev S Λ YX11_cloths d [.ref 207] M (fun r M' => ∃ x, r = some (.int x) ∧ Q0 x M'))
    (k0 : ∀ x1 M1, Q0 x1 M1 → (x1 ≤ v4) → P none M1)
    (k1 : ∀ x1 M1, Q0 x1 M1 → (¬ x1 ≤ v4) → (¬ (((M1.1 207 35) >>> (v4 &&& 31)) &&& 1) = 1) → pg_At S Λ YX11_washesFrom (d + 1) 54 [(0, .ref 207), (1, .int v1), (2, .int v2), (3, .int v3), (4, .int (v4 + 1))] [] M1 P)
    (k2 : ∀ x1 M1, Q0 x1 M1 → (¬ x1 ≤ v4) → ((((M1.1 207 35) >>> (v4 &&& 31)) &&& 1) = 1) → (¬ ((v2 >>> (v4 &&& 31)) &&& 1) = 0) → pg_At S Λ YX11_washesFrom (d + 1) 54 [(0, .ref 207), (1, .int v1), (2, .int v2), (3, .int v3), (4, .int (v4 + 1))] [] M1 P)
    (b0 : ∀ x1 M1, Q0 x1 M1 → (¬ x1 ≤ v4) → ((((M1.1 207 35) >>> (v4 &&& 31)) &&& 1) = 1) → (((v2 >>> (v4 &&& 31)) &&& 1) = 0) → vp_in ((6 * v4) + v1) 36)
    (b1 : ∀ x1 M1, Q0 x1 M1 → (¬ x1 ≤ v4) → ((((M1.1 207 35) >>> (v4 &&& 31)) &&& 1) = 1) → (((v2 >>> (v4 &&& 31)) &&& 1) = 0) → vp_in v1 6)
    (e1 : ∀ x1 M1, Q0 x1 M1 → (¬ x1 ≤ v4) → ((((M1.1 207 35) >>> (v4 &&& 31)) &&& 1) = 1) → (((v2 >>> (v4 &&& 31)) &&& 1) = 0) → ((M1.1 227 ((6 * v4) + v1).toNatClampNeg) ≤ v3) → pg_Ev S Λ YX11_washesFrom d [.ref 207, .int (v1 + 1), .int (v2 ||| ((1 : Int32) <<< (v4 &&& 31))), .int v3] (pg_si M1 228 v1.toNatClampNeg v4) (fun r M' => r = none ∧ Q1 M'))
    (k3 : ∀ x1 M1, Q0 x1 M1 → (¬ x1 ≤ v4) → ((((M1.1 207 35) >>> (v4 &&& 31)) &&& 1) = 1) → (((v2 >>> (v4 &&& 31)) &&& 1) = 0) → ((M1.1 227 ((6 * v4) + v1).toNatClampNeg) ≤ v3) → ∀ M2, Q1 M2 → pg_At S Λ YX11_washesFrom (d + 1) 54 [(0, .ref 207), (1, .int v1), (2, .int v2), (3, .int v3), (4, .int (v4 + 1))] [] M2 P)
    (e2 : ∀ x1 M1, Q0 x1 M1 → (¬ x1 ≤ v4) → ((((M1.1 207 35) >>> (v4 &&& 31)) &&& 1) = 1) → (((v2 >>> (v4 &&& 31)) &&& 1) = 0) → (¬ (M1.1 227 ((6 * v4) + v1).toNatClampNeg) ≤ v3) → pg_Ev S Λ YX11_washesFrom d [.ref 207, .int (v1 + 1), .int (v2 ||| ((1 : Int32) <<< (v4 &&& 31))), .int (M1.1 227 ((6 * v4) + v1).toNatClampNeg)] (pg_si M1 228 v1.toNatClampNeg v4) (fun r M' => r = none ∧ Q2 M'))
    (k4 : ∀ x1 M1, Q0 x1 M1 → (¬ x1 ≤ v4) → ((((M1.1 207 35) >>> (v4 &&& 31)) &&& 1) = 1) → (((v2 >>> (v4 &&& 31)) &&& 1) = 0) → (¬ (M1.1 227 ((6 * v4) + v1).toNatClampNeg) ≤ v3) → ∀ M3, Q2 M3 → pg_At S Λ YX11_washesFrom (d + 1) 54 [(0, .ref 207), (1, .int v1), (2, .int v2), (3, .int v3), (4, .int (v4 + 1))] [] M3 P) :
    pg_At S Λ YX11_washesFrom (d + 1) 54 [(0, .ref 207), (1, .int v1), (2, .int v2), (3, .int v3), (4, .int v4)] [] M P := by
  refine pg_iload (pc := 54) (i := 4) (j := 4) (x := v4) dX11_washesFrom_54 rfl ?_
  refine pg_aload_n (pc := 56) (i := 0) (j := 0) (x := 207) dX11_washesFrom_56 rfl rfl ?_
  refine pg_callV (pc := 57) (As := []) (st := [.int v4]) okX11_cloths lkX11_292 rfl h0.1 rfl (Nat.le_refl _) (Nat.le_of_ble_eq_true rfl) e0 dX11_washesFrom_57 (fun r1 M1 w1 => ?_)
  obtain ⟨x1, rfl, w1⟩ := w1
  refine pg_icmp_ge (pc := 60) (tgt := 138) dX11_washesFrom_60 (by decide) (fun c0 => ?_) (fun c0 => ?_)
  · skip
    exact pg_vret (pc := 138) rfl dX11_washesFrom_138 (k0 x1 M1 w1 c0)
  · skip
    refine pg_aload_n (pc := 63) (i := 0) (j := 0) (x := 207) dX11_washesFrom_63 rfl rfl ?_
    refine gfX11_410 (pc := 64) rfl h0 dX11_washesFrom_64 ?_
    refine pg_iload (pc := 67) (i := 4) (j := 4) (x := v4) dX11_washesFrom_67 rfl ?_
    refine pg_ishr (pc := 69) dX11_washesFrom_69 ?_
    refine pg_iconst (pc := 70) (v := 1) dX11_washesFrom_70 (by decide) ?_
    refine pg_iand (pc := 71) dX11_washesFrom_71 ?_
    refine pg_iconst (pc := 72) (v := 1) dX11_washesFrom_72 (by decide) ?_
    refine pg_icmp_ne (pc := 73) (tgt := 132) dX11_washesFrom_73 (by decide) (fun c1 => ?_) (fun c1 => ?_)
    · skip
      refine pg_iinc (pc := 132) (i := 4) (j := 4) (x := v4) (v := v4 + 1) (ls' := [(4, .int (v4 + 1)), (0, .ref 207), (1, .int v1), (2, .int v2), (3, .int v3)]) dX11_washesFrom_132 rfl rfl (by decide) rfl ?_
      refine pg_goto (pc := 135) (tgt := 54) dX11_washesFrom_135 (by decide) ?_
      refine pg_drop (ks := [1, 2, 3, 4, 0]) (ls' := [(0, .ref 207), (1, .int v1), (2, .int v2), (3, .int v3), (4, .int (v4 + 1))]) rfl ?_
      exact k1 x1 M1 w1 c0 c1
    · skip
      refine pg_iload_n (pc := 76) (i := 2) (j := 2) (x := v2) dX11_washesFrom_76 rfl rfl ?_
      refine pg_iload (pc := 77) (i := 4) (j := 4) (x := v4) dX11_washesFrom_77 rfl ?_
      refine pg_ishr (pc := 79) dX11_washesFrom_79 ?_
      refine pg_iconst (pc := 80) (v := 1) dX11_washesFrom_80 (by decide) ?_
      refine pg_iand (pc := 81) dX11_washesFrom_81 ?_
      refine pg_if_ne (pc := 82) (tgt := 132) dX11_washesFrom_82 (by decide) (fun c2 => ?_) (fun c2 => ?_)
      · skip
        refine pg_iinc (pc := 132) (i := 4) (j := 4) (x := v4) (v := v4 + 1) (ls' := [(4, .int (v4 + 1)), (0, .ref 207), (1, .int v1), (2, .int v2), (3, .int v3)]) dX11_washesFrom_132 rfl rfl (by decide) rfl ?_
        refine pg_goto (pc := 135) (tgt := 54) dX11_washesFrom_135 (by decide) ?_
        refine pg_drop (ks := [1, 2, 3, 4, 0]) (ls' := [(0, .ref 207), (1, .int v1), (2, .int v2), (3, .int v3), (4, .int (v4 + 1))]) rfl ?_
        exact k2 x1 M1 w1 c0 c1 c2
      · skip
        refine pg_aload_n (pc := 85) (i := 0) (j := 0) (x := 207) dX11_washesFrom_85 rfl rfl ?_
        refine gfX11_132 (pc := 86) rfl h0 dX11_washesFrom_86 ?_
        refine pg_bipush (pc := 89) (v := 6) dX11_washesFrom_89 (by decide) ?_
        refine pg_iload (pc := 91) (i := 4) (j := 4) (x := v4) dX11_washesFrom_91 rfl ?_
        refine pg_imul (pc := 93) dX11_washesFrom_93 ?_
        refine pg_iload_n (pc := 94) (i := 1) (j := 1) (x := v1) dX11_washesFrom_94 rfl rfl ?_
        refine pg_iadd (pc := 95) dX11_washesFrom_95 ?_
        refine pg_iald (pc := 96) h0.2.2.2.2.2.2.2.2.2.2.2.2.2.2.2.2.2.2.2.2.1 (b0 x1 M1 w1 c0 c1 c2) dX11_washesFrom_96 ?_
        refine pg_istore (pc := 97) (i := 5) (ls' := [(5, .int (M1.1 227 ((6 * v4) + v1).toNatClampNeg)), (0, .ref 207), (1, .int v1), (2, .int v2), (3, .int v3), (4, .int v4)]) dX11_washesFrom_97 (by decide) rfl ?_
        refine pg_aload_n (pc := 99) (i := 0) (j := 1) (x := 207) dX11_washesFrom_99 rfl rfl ?_
        refine gfX11_135 (pc := 100) rfl h0 dX11_washesFrom_100 ?_
        refine pg_iload_n (pc := 103) (i := 1) (j := 2) (x := v1) dX11_washesFrom_103 rfl rfl ?_
        refine pg_iload (pc := 104) (i := 4) (j := 5) (x := v4) dX11_washesFrom_104 rfl ?_
        refine pg_iast (pc := 106) h0.2.2.2.2.2.2.2.2.2.2.2.2.2.2.2.2.2.2.2.2.2.1 (b1 x1 M1 w1 c0 c1 c2) dX11_washesFrom_106 ?_
        refine pg_aload_n (pc := 107) (i := 0) (j := 1) (x := 207) dX11_washesFrom_107 rfl rfl ?_
        refine pg_iload_n (pc := 108) (i := 1) (j := 2) (x := v1) dX11_washesFrom_108 rfl rfl ?_
        refine pg_iconst (pc := 109) (v := 1) dX11_washesFrom_109 (by decide) ?_
        refine pg_iadd (pc := 110) dX11_washesFrom_110 ?_
        refine pg_iload_n (pc := 111) (i := 2) (j := 3) (x := v2) dX11_washesFrom_111 rfl rfl ?_
        refine pg_iconst (pc := 112) (v := 1) dX11_washesFrom_112 (by decide) ?_
        refine pg_iload (pc := 113) (i := 4) (j := 5) (x := v4) dX11_washesFrom_113 rfl ?_
        refine pg_ishl (pc := 115) dX11_washesFrom_115 ?_
        refine pg_ior (pc := 116) dX11_washesFrom_116 ?_
        refine pg_iload (pc := 117) (i := 5) (j := 0) (x := (M1.1 227 ((6 * v4) + v1).toNatClampNeg)) dX11_washesFrom_117 rfl ?_
        refine pg_iload_n (pc := 119) (i := 3) (j := 4) (x := v3) dX11_washesFrom_119 rfl rfl ?_
        refine pg_icmp_le (pc := 120) (tgt := 128) dX11_washesFrom_120 (by decide) (fun c3 => ?_) (fun c3 => ?_)
        · skip
          refine pg_iload_n (pc := 128) (i := 3) (j := 4) (x := v3) dX11_washesFrom_128 rfl rfl ?_
          refine pg_callV (pc := 129) (As := [.int (v1 + 1), .int (v2 ||| ((1 : Int32) <<< (v4 &&& 31))), .int v3]) (st := []) okX11_washesFrom lkX11_416 rfl h0.1 rfl (Nat.le_refl _) (Nat.le_of_ble_eq_true rfl) (e1 x1 M1 w1 c0 c1 c2 c3) dX11_washesFrom_129 (fun r2 M2 w2 => ?_)
          obtain ⟨rfl, w2⟩ := w2
          refine pg_iinc (pc := 132) (i := 4) (j := 5) (x := v4) (v := v4 + 1) (ls' := [(4, .int (v4 + 1)), (5, .int (M1.1 227 ((6 * v4) + v1).toNatClampNeg)), (0, .ref 207), (1, .int v1), (2, .int v2), (3, .int v3)]) dX11_washesFrom_132 rfl rfl (by decide) rfl ?_
          refine pg_goto (pc := 135) (tgt := 54) dX11_washesFrom_135 (by decide) ?_
          refine pg_drop (ks := [2, 3, 4, 5, 0]) (ls' := [(0, .ref 207), (1, .int v1), (2, .int v2), (3, .int v3), (4, .int (v4 + 1))]) rfl ?_
          exact k3 x1 M1 w1 c0 c1 c2 c3 M2 w2
        · skip
          refine pg_iload (pc := 123) (i := 5) (j := 0) (x := (M1.1 227 ((6 * v4) + v1).toNatClampNeg)) dX11_washesFrom_123 rfl ?_
          refine pg_goto (pc := 125) (tgt := 129) dX11_washesFrom_125 (by decide) ?_
          refine pg_callV (pc := 129) (As := [.int (v1 + 1), .int (v2 ||| ((1 : Int32) <<< (v4 &&& 31))), .int (M1.1 227 ((6 * v4) + v1).toNatClampNeg)]) (st := []) okX11_washesFrom lkX11_416 rfl h0.1 rfl (Nat.le_refl _) (Nat.le_of_ble_eq_true rfl) (e2 x1 M1 w1 c0 c1 c2 c3) dX11_washesFrom_129 (fun r3 M3 w3 => ?_)
          obtain ⟨rfl, w3⟩ := w3
          refine pg_iinc (pc := 132) (i := 4) (j := 5) (x := v4) (v := v4 + 1) (ls' := [(4, .int (v4 + 1)), (5, .int (M1.1 227 ((6 * v4) + v1).toNatClampNeg)), (0, .ref 207), (1, .int v1), (2, .int v2), (3, .int v3)]) dX11_washesFrom_132 rfl rfl (by decide) rfl ?_
          refine pg_goto (pc := 135) (tgt := 54) dX11_washesFrom_135 (by decide) ?_
          refine pg_drop (ks := [2, 3, 4, 5, 0]) (ls' := [(0, .ref 207), (1, .int v1), (2, .int v2), (3, .int v3), (4, .int (v4 + 1))]) rfl ?_
          exact k4 x1 M1 w1 c0 c1 c2 c3 M3 w3
theorem sX11_washesFrom_24 {v1 : Int32} {v4 : Int32} 
    (h0 : pg_isX11 Λ)
    (k0 : (v1 ≤ v4) → P none M)
    (b0 : (¬ v1 ≤ v4) → vp_in v4 6)
    (k1 : (¬ v1 ≤ v4) → pg_At S Λ YX11_washesFrom (d + 1) 24 [(0, .ref 207), (1, .int v1), (4, .int (v4 + 1))] [] (pg_si M 229 v4.toNatClampNeg (M.1 228 v4.toNatClampNeg)) P) :
    pg_At S Λ YX11_washesFrom (d + 1) 24 [(0, .ref 207), (1, .int v1), (4, .int v4)] [] M P := by
  refine pg_iload (pc := 24) (i := 4) (j := 2) (x := v4) dX11_washesFrom_24 rfl ?_
  refine pg_iload_n (pc := 26) (i := 1) (j := 1) (x := v1) dX11_washesFrom_26 rfl rfl ?_
  refine pg_icmp_ge (pc := 27) (tgt := 50) dX11_washesFrom_27 (by decide) (fun c0 => ?_) (fun c0 => ?_)
  · skip
    exact pg_vret (pc := 50) rfl dX11_washesFrom_50 (k0 c0)
  · skip
    refine pg_aload_n (pc := 30) (i := 0) (j := 0) (x := 207) dX11_washesFrom_30 rfl rfl ?_
    refine gfX11_138 (pc := 31) rfl h0 dX11_washesFrom_31 ?_
    refine pg_iload (pc := 34) (i := 4) (j := 2) (x := v4) dX11_washesFrom_34 rfl ?_
    refine pg_aload_n (pc := 36) (i := 0) (j := 0) (x := 207) dX11_washesFrom_36 rfl rfl ?_
    refine gfX11_135 (pc := 37) rfl h0 dX11_washesFrom_37 ?_
    refine pg_iload (pc := 40) (i := 4) (j := 2) (x := v4) dX11_washesFrom_40 rfl ?_
    refine pg_iald (pc := 42) h0.2.2.2.2.2.2.2.2.2.2.2.2.2.2.2.2.2.2.2.2.2.1 (b0 c0) dX11_washesFrom_42 ?_
    refine pg_iast (pc := 43) h0.2.2.2.2.2.2.2.2.2.2.2.2.2.2.2.2.2.2.2.2.2.2.1 (b0 c0) dX11_washesFrom_43 ?_
    refine pg_iinc (pc := 44) (i := 4) (j := 2) (x := v4) (v := v4 + 1) (ls' := [(4, .int (v4 + 1)), (0, .ref 207), (1, .int v1)]) dX11_washesFrom_44 rfl rfl (by decide) rfl ?_
    refine pg_goto (pc := 47) (tgt := 24) dX11_washesFrom_47 (by decide) ?_
    refine pg_drop (ks := [1, 2, 0]) (ls' := [(0, .ref 207), (1, .int v1), (4, .int (v4 + 1))]) rfl ?_
    exact k1 c0
theorem oX11_washesFrom {d : Nat} {v1 : Int32} {v2 : Int32} {v3 : Int32} (h : pg_At S Λ YX11_washesFrom d 0 [(0, .ref 207), (1, .int v1), (2, .int v2), (3, .int v3)] [] M P) : pg_Ev S Λ YX11_washesFrom d [.ref 207, .int v1, .int v2, .int v3] M P := pg_Ev.of (by decide) (by first | decide | exact Nat.le_of_ble_eq_true rfl) h
theorem sX11_dry_0 {v1 : Int32} 
    (h0 : pg_isX11 Λ)
    (k0 : pg_At S Λ YX11_dry (d + 1) 12 [(0, .ref 207), (1, .int v1), (2, .int 0)] [] (pg_si (pg_si M 207 0 0) 207 35 0) P) :
    pg_At S Λ YX11_dry (d + 1) 0 [(0, .ref 207), (1, .int v1)] [] M P := by
  refine pg_aload_n (pc := 0) (i := 0) (j := 0) (x := 207) dX11_dry_0 rfl rfl ?_
  refine pg_iconst (pc := 1) (v := 0) dX11_dry_1 (by decide) ?_
  refine pfX11_1 (pc := 2) rfl h0 dX11_dry_2 ?_
  refine pg_aload_n (pc := 5) (i := 0) (j := 0) (x := 207) dX11_dry_5 rfl rfl ?_
  refine pg_iconst (pc := 6) (v := 0) dX11_dry_6 (by decide) ?_
  refine pfX11_410 (pc := 7) rfl h0 dX11_dry_7 ?_
  refine pg_iconst (pc := 10) (v := 0) dX11_dry_10 (by decide) ?_
  refine pg_istore_n (pc := 11) (i := 2) (ls' := [(2, .int 0), (0, .ref 207), (1, .int v1)]) dX11_dry_11 rfl (by decide) rfl ?_
  refine pg_drop (ks := [1, 2, 0]) (ls' := [(0, .ref 207), (1, .int v1), (2, .int 0)]) rfl ?_
  exact k0
theorem sX11_dry_12 {v1 : Int32} {v2 : Int32} {Q0 : Int32 → pg_M → Prop} {Q1 : Int32 → pg_M → Prop} {Q2 : Int32 → pg_M → Prop} {Q3 : pg_M → Prop} {Q4 : Int32 → pg_M → Prop}
    (h0 : pg_isX11 Λ)
    (e0 : pg_Ev S Λ YX11_cloths d [.ref 207] M (fun r M' => ∃ x, r = some (.int x) ∧ Q0 x M'))
    (e1 : ∀ x1 M1, Q0 x1 M1 → (x1 ≤ v2) → pg_Ev S Λ YX11_bits d [.int (M1.1 207 35)] M1 (fun r M' => ∃ x, r = some (.int x) ∧ Q1 x M'))
    (e2 : ∀ x1 M1, Q0 x1 M1 → (x1 ≤ v2) → ∀ x2 M2, Q1 x2 M2 → pg_Ev S Λ YX11_within d [.int v1, .int 0, .int x2] M2 (fun r M' => ∃ x, r = some (.int x) ∧ Q2 x M'))
    (e3 : ∀ x1 M1, Q0 x1 M1 → (x1 ≤ v2) → ∀ x2 M2, Q1 x2 M2 → ∀ x3 M3, Q2 x3 M3 → (¬ x3 = 0) → pg_Ev S Λ YX11_washesFrom d [.ref 207, .int 0, .int 0, .int 0] (pg_si M3 207 34 100) (fun r M' => r = none ∧ Q3 M'))
    (b0 : ∀ x1 M1, Q0 x1 M1 → (x1 ≤ v2) → ∀ x2 M2, Q1 x2 M2 → ∀ x3 M3, Q2 x3 M3 → (¬ x3 = 0) → ∀ M4, Q3 M4 → (¬ (M4.1 207 34) = 100) → (¬ v1 = 0) → vp_in (v1 - 1) 6)
    (k0 : ∀ x1 M1, Q0 x1 M1 → (x1 ≤ v2) → ∀ x2 M2, Q1 x2 M2 → ∀ x3 M3, Q2 x3 M3 → (¬ x3 = 0) → ∀ M4, Q3 M4 → (¬ (M4.1 207 34) = 100) → (¬ v1 = 0) → P (some (.int (M4.1 229 (v1 - 1).toNatClampNeg))) M4)
    (k1 : ∀ x1 M1, Q0 x1 M1 → (x1 ≤ v2) → ∀ x2 M2, Q1 x2 M2 → ∀ x3 M3, Q2 x3 M3 → (¬ x3 = 0) → ∀ M4, Q3 M4 → (¬ (M4.1 207 34) = 100) → (v1 = 0) → P (some (.int (M4.1 207 34))) M4)
    (k2 : ∀ x1 M1, Q0 x1 M1 → (x1 ≤ v2) → ∀ x2 M2, Q1 x2 M2 → ∀ x3 M3, Q2 x3 M3 → (¬ x3 = 0) → ∀ M4, Q3 M4 → ((M4.1 207 34) = 100) → P (some (.int (-1))) M4)
    (k3 : ∀ x1 M1, Q0 x1 M1 → (x1 ≤ v2) → ∀ x2 M2, Q1 x2 M2 → ∀ x3 M3, Q2 x3 M3 → (x3 = 0) → P (some (.int (-1))) M3)
    (e4 : ∀ x1 M1, Q0 x1 M1 → (¬ x1 ≤ v2) → pg_Ev S Λ YX11_isHung d [.ref 207, .int 0, .int v2] M1 (fun r M' => ∃ x, r = some (.int x) ∧ Q4 x M'))
    (k4 : ∀ x1 M1, Q0 x1 M1 → (¬ x1 ≤ v2) → ∀ x5 M5, Q4 x5 M5 → (¬ x5 = 0) → pg_At S Λ YX11_dry (d + 1) 59 [(0, .ref 207), (1, .int v1), (2, .int v2), (3, .int 0)] [] (pg_si M5 207 35 ((M1.1 207 35) ||| 0)) P)
    (b1 : ∀ x1 M1, Q0 x1 M1 → (¬ x1 ≤ v2) → ∀ x5 M5, Q4 x5 M5 → (x5 = 0) → vp_in (8 + v2) 1242)
    (k5 : ∀ x1 M1, Q0 x1 M1 → (¬ x1 ≤ v2) → ∀ x5 M5, Q4 x5 M5 → (x5 = 0) → ((M5.1 221 (8 + v2).toNatClampNeg) ≤ 0) → pg_At S Λ YX11_dry (d + 1) 59 [(0, .ref 207), (1, .int v1), (2, .int v2), (3, .int 0)] [] (pg_si M5 207 35 ((M1.1 207 35) ||| 0)) P)
    (k6 : ∀ x1 M1, Q0 x1 M1 → (¬ x1 ≤ v2) → ∀ x5 M5, Q4 x5 M5 → (x5 = 0) → (¬ (M5.1 221 (8 + v2).toNatClampNeg) ≤ 0) → pg_At S Λ YX11_dry (d + 1) 59 [(0, .ref 207), (1, .int v1), (2, .int v2), (3, .int 0)] [] (pg_si M5 207 35 ((M1.1 207 35) ||| ((1 : Int32) <<< (v2 &&& 31)))) P) :
    pg_At S Λ YX11_dry (d + 1) 12 [(0, .ref 207), (1, .int v1), (2, .int v2)] [] M P := by
  refine pg_iload_n (pc := 12) (i := 2) (j := 2) (x := v2) dX11_dry_12 rfl rfl ?_
  refine pg_aload_n (pc := 13) (i := 0) (j := 0) (x := 207) dX11_dry_13 rfl rfl ?_
  refine pg_callV (pc := 14) (As := []) (st := [.int v2]) okX11_cloths lkX11_292 rfl h0.1 rfl (Nat.le_refl _) (Nat.le_of_ble_eq_true rfl) e0 dX11_dry_14 (fun r1 M1 w1 => ?_)
  obtain ⟨x1, rfl, w1⟩ := w1
  refine pg_icmp_ge (pc := 17) (tgt := 94) dX11_dry_17 (by decide) (fun c0 => ?_) (fun c0 => ?_)
  · skip
    refine pg_iload_n (pc := 94) (i := 1) (j := 1) (x := v1) dX11_dry_94 rfl rfl ?_
    refine pg_iconst (pc := 95) (v := 0) dX11_dry_95 (by decide) ?_
    refine pg_aload_n (pc := 96) (i := 0) (j := 0) (x := 207) dX11_dry_96 rfl rfl ?_
    refine gfX11_410 (pc := 97) rfl h0 dX11_dry_97 ?_
    refine pg_callS (pc := 100) (As := [.int (M1.1 207 35)]) (st := [.int 0, .int v1]) okX11_bits lkX11_298 rfl (Nat.le_refl _) (Nat.le_of_ble_eq_true rfl) (e1 x1 M1 w1 c0) dX11_dry_100 (fun r2 M2 w2 => ?_)
    obtain ⟨x2, rfl, w2⟩ := w2
    refine pg_callS (pc := 103) (As := [.int v1, .int 0, .int x2]) (st := []) okX11_within lkX11_349 rfl (Nat.le_refl _) (Nat.le_of_ble_eq_true rfl) (e2 x1 M1 w1 c0 x2 M2 w2) dX11_dry_103 (fun r3 M3 w3 => ?_)
    obtain ⟨x3, rfl, w3⟩ := w3
    refine pg_if_ne (pc := 106) (tgt := 111) dX11_dry_106 (by decide) (fun c1 => ?_) (fun c1 => ?_)
    · skip
      refine pg_aload_n (pc := 111) (i := 0) (j := 0) (x := 207) dX11_dry_111 rfl rfl ?_
      refine pg_bipush (pc := 112) (v := 100) dX11_dry_112 (by decide) ?_
      refine pfX11_413 (pc := 114) rfl h0 dX11_dry_114 ?_
      refine pg_aload_n (pc := 117) (i := 0) (j := 0) (x := 207) dX11_dry_117 rfl rfl ?_
      refine pg_iconst (pc := 118) (v := 0) dX11_dry_118 (by decide) ?_
      refine pg_iconst (pc := 119) (v := 0) dX11_dry_119 (by decide) ?_
      refine pg_iconst (pc := 120) (v := 0) dX11_dry_120 (by decide) ?_
      refine pg_callV (pc := 121) (As := [.int 0, .int 0, .int 0]) (st := []) okX11_washesFrom lkX11_416 rfl h0.1 rfl (Nat.le_refl _) (Nat.le_of_ble_eq_true rfl) (e3 x1 M1 w1 c0 x2 M2 w2 x3 M3 w3 c1) dX11_dry_121 (fun r4 M4 w4 => ?_)
      obtain ⟨rfl, w4⟩ := w4
      refine pg_aload_n (pc := 124) (i := 0) (j := 0) (x := 207) dX11_dry_124 rfl rfl ?_
      refine gfX11_413 (pc := 125) rfl h0 dX11_dry_125 ?_
      refine pg_bipush (pc := 128) (v := 100) dX11_dry_128 (by decide) ?_
      refine pg_icmp_ne (pc := 130) (tgt := 137) dX11_dry_130 (by decide) (fun c2 => ?_) (fun c2 => ?_)
      · skip
        refine pg_iload_n (pc := 137) (i := 1) (j := 1) (x := v1) dX11_dry_137 rfl rfl ?_
        refine pg_if_ne (pc := 138) (tgt := 148) dX11_dry_138 (by decide) (fun c3 => ?_) (fun c3 => ?_)
        · skip
          refine pg_aload_n (pc := 148) (i := 0) (j := 0) (x := 207) dX11_dry_148 rfl rfl ?_
          refine gfX11_138 (pc := 149) rfl h0 dX11_dry_149 ?_
          refine pg_iload_n (pc := 152) (i := 1) (j := 1) (x := v1) dX11_dry_152 rfl rfl ?_
          refine pg_iconst (pc := 153) (v := 1) dX11_dry_153 (by decide) ?_
          refine pg_isub (pc := 154) dX11_dry_154 ?_
          refine pg_iald (pc := 155) h0.2.2.2.2.2.2.2.2.2.2.2.2.2.2.2.2.2.2.2.2.2.2.1 (b0 x1 M1 w1 c0 x2 M2 w2 x3 M3 w3 c1 M4 w4 c2 c3) dX11_dry_155 ?_
          exact pg_iret (pc := 156) rfl dX11_dry_156 (k0 x1 M1 w1 c0 x2 M2 w2 x3 M3 w3 c1 M4 w4 c2 c3)
        · skip
          refine pg_aload_n (pc := 141) (i := 0) (j := 0) (x := 207) dX11_dry_141 rfl rfl ?_
          refine gfX11_413 (pc := 142) rfl h0 dX11_dry_142 ?_
          refine pg_goto (pc := 145) (tgt := 156) dX11_dry_145 (by decide) ?_
          exact pg_iret (pc := 156) rfl dX11_dry_156 (k1 x1 M1 w1 c0 x2 M2 w2 x3 M3 w3 c1 M4 w4 c2 c3)
      · skip
        refine pg_iconst (pc := 133) (v := (-1)) dX11_dry_133 (by decide) ?_
        refine pg_goto (pc := 134) (tgt := 156) dX11_dry_134 (by decide) ?_
        exact pg_iret (pc := 156) rfl dX11_dry_156 (k2 x1 M1 w1 c0 x2 M2 w2 x3 M3 w3 c1 M4 w4 c2)
    · skip
      refine pg_iconst (pc := 109) (v := (-1)) dX11_dry_109 (by decide) ?_
      exact pg_iret (pc := 110) rfl dX11_dry_110 (k3 x1 M1 w1 c0 x2 M2 w2 x3 M3 w3 c1)
  · skip
    refine pg_aload_n (pc := 20) (i := 0) (j := 0) (x := 207) dX11_dry_20 rfl rfl ?_
    refine pg_dup (pc := 21) dX11_dry_21 rfl ?_
    refine gfX11_410 (pc := 22) rfl h0 dX11_dry_22 ?_
    refine pg_aload_n (pc := 25) (i := 0) (j := 0) (x := 207) dX11_dry_25 rfl rfl ?_
    refine pg_iconst (pc := 26) (v := 0) dX11_dry_26 (by decide) ?_
    refine pg_iload_n (pc := 27) (i := 2) (j := 2) (x := v2) dX11_dry_27 rfl rfl ?_
    refine pg_callV (pc := 28) (As := [.int 0, .int v2]) (st := [.int (M1.1 207 35), .ref 207]) okX11_isHung lkX11_304 rfl h0.1 rfl (Nat.le_refl _) (Nat.le_of_ble_eq_true rfl) (e4 x1 M1 w1 c0) dX11_dry_28 (fun r5 M5 w5 => ?_)
    obtain ⟨x5, rfl, w5⟩ := w5
    refine pg_if_ne (pc := 31) (tgt := 52) dX11_dry_31 (by decide) (fun c1 => ?_) (fun c1 => ?_)
    · skip
      refine pg_iconst (pc := 52) (v := 0) dX11_dry_52 (by decide) ?_
      refine pg_ior (pc := 53) dX11_dry_53 ?_
      refine pfX11_410 (pc := 54) rfl h0 dX11_dry_54 ?_
      refine pg_iconst (pc := 57) (v := 0) dX11_dry_57 (by decide) ?_
      refine pg_istore_n (pc := 58) (i := 3) (ls' := [(3, .int 0), (0, .ref 207), (1, .int v1), (2, .int v2)]) dX11_dry_58 rfl (by decide) rfl ?_
      refine pg_drop (ks := [1, 2, 3, 0]) (ls' := [(0, .ref 207), (1, .int v1), (2, .int v2), (3, .int 0)]) rfl ?_
      exact k4 x1 M1 w1 c0 x5 M5 w5 c1
    · skip
      refine pg_aload_n (pc := 34) (i := 0) (j := 0) (x := 207) dX11_dry_34 rfl rfl ?_
      refine gfX11_113 (pc := 35) rfl h0 dX11_dry_35 ?_
      refine pg_bipush (pc := 38) (v := 8) dX11_dry_38 (by decide) ?_
      refine pg_iload_n (pc := 40) (i := 2) (j := 2) (x := v2) dX11_dry_40 rfl rfl ?_
      refine pg_iadd (pc := 41) dX11_dry_41 ?_
      refine pg_iald (pc := 42) h0.2.2.2.2.2.2.2.2.2.2.2.2.2.2.1 (b1 x1 M1 w1 c0 x5 M5 w5 c1) dX11_dry_42 ?_
      refine pg_if_le (pc := 43) (tgt := 52) dX11_dry_43 (by decide) (fun c2 => ?_) (fun c2 => ?_)
      · skip
        refine pg_iconst (pc := 52) (v := 0) dX11_dry_52 (by decide) ?_
        refine pg_ior (pc := 53) dX11_dry_53 ?_
        refine pfX11_410 (pc := 54) rfl h0 dX11_dry_54 ?_
        refine pg_iconst (pc := 57) (v := 0) dX11_dry_57 (by decide) ?_
        refine pg_istore_n (pc := 58) (i := 3) (ls' := [(3, .int 0), (0, .ref 207), (1, .int v1), (2, .int v2)]) dX11_dry_58 rfl (by decide) rfl ?_
        refine pg_drop (ks := [1, 2, 3, 0]) (ls' := [(0, .ref 207), (1, .int v1), (2, .int v2), (3, .int 0)]) rfl ?_
        exact k5 x1 M1 w1 c0 x5 M5 w5 c1 c2
      · skip
        refine pg_iconst (pc := 46) (v := 1) dX11_dry_46 (by decide) ?_
        refine pg_iload_n (pc := 47) (i := 2) (j := 2) (x := v2) dX11_dry_47 rfl rfl ?_
        refine pg_ishl (pc := 48) dX11_dry_48 ?_
        refine pg_goto (pc := 49) (tgt := 53) dX11_dry_49 (by decide) ?_
        refine pg_ior (pc := 53) dX11_dry_53 ?_
        refine pfX11_410 (pc := 54) rfl h0 dX11_dry_54 ?_
        refine pg_iconst (pc := 57) (v := 0) dX11_dry_57 (by decide) ?_
        refine pg_istore_n (pc := 58) (i := 3) (ls' := [(3, .int 0), (0, .ref 207), (1, .int v1), (2, .int v2)]) dX11_dry_58 rfl (by decide) rfl ?_
        refine pg_drop (ks := [1, 2, 3, 0]) (ls' := [(0, .ref 207), (1, .int v1), (2, .int v2), (3, .int 0)]) rfl ?_
        exact k6 x1 M1 w1 c0 x5 M5 w5 c1 c2
theorem sX11_dry_59 {v1 : Int32} {v2 : Int32} {v3 : Int32} {Q0 : Int32 → pg_M → Prop}
    (h0 : pg_isX11 Λ)
    (k0 : (6 ≤ v3) → pg_At S Λ YX11_dry (d + 1) 12 [(0, .ref 207), (1, .int v1), (2, .int (v2 + 1))] [] M P)
    (e0 : (¬ 6 ≤ v3) → pg_Ev S Λ YX11_driedBehind d [.ref 207, .int v2, .int v3] M (fun r M' => ∃ x, r = some (.int x) ∧ Q0 x M'))
    (b0 : (¬ 6 ≤ v3) → ∀ x1 M1, Q0 x1 M1 → vp_in ((6 * v2) + v3) 36)
    (k1 : (¬ 6 ≤ v3) → ∀ x1 M1, Q0 x1 M1 → pg_At S Λ YX11_dry (d + 1) 59 [(0, .ref 207), (1, .int v1), (2, .int v2), (3, .int (v3 + 1))] [] (pg_si M1 227 ((6 * v2) + v3).toNatClampNeg x1) P) :
    pg_At S Λ YX11_dry (d + 1) 59 [(0, .ref 207), (1, .int v1), (2, .int v2), (3, .int v3)] [] M P := by
  refine pg_iload_n (pc := 59) (i := 3) (j := 3) (x := v3) dX11_dry_59 rfl rfl ?_
  refine pg_bipush (pc := 60) (v := 6) dX11_dry_60 (by decide) ?_
  refine pg_icmp_ge (pc := 62) (tgt := 88) dX11_dry_62 (by decide) (fun c0 => ?_) (fun c0 => ?_)
  · skip
    refine pg_iinc (pc := 88) (i := 2) (j := 2) (x := v2) (v := v2 + 1) (ls' := [(2, .int (v2 + 1)), (0, .ref 207), (1, .int v1), (3, .int v3)]) dX11_dry_88 rfl rfl (by decide) rfl ?_
    refine pg_goto (pc := 91) (tgt := 12) dX11_dry_91 (by decide) ?_
    refine pg_drop (ks := [1, 2, 0]) (ls' := [(0, .ref 207), (1, .int v1), (2, .int (v2 + 1))]) rfl ?_
    exact k0 c0
  · skip
    refine pg_aload_n (pc := 65) (i := 0) (j := 0) (x := 207) dX11_dry_65 rfl rfl ?_
    refine gfX11_132 (pc := 66) rfl h0 dX11_dry_66 ?_
    refine pg_bipush (pc := 69) (v := 6) dX11_dry_69 (by decide) ?_
    refine pg_iload_n (pc := 71) (i := 2) (j := 2) (x := v2) dX11_dry_71 rfl rfl ?_
    refine pg_imul (pc := 72) dX11_dry_72 ?_
    refine pg_iload_n (pc := 73) (i := 3) (j := 3) (x := v3) dX11_dry_73 rfl rfl ?_
    refine pg_iadd (pc := 74) dX11_dry_74 ?_
    refine pg_aload_n (pc := 75) (i := 0) (j := 0) (x := 207) dX11_dry_75 rfl rfl ?_
    refine pg_iload_n (pc := 76) (i := 2) (j := 2) (x := v2) dX11_dry_76 rfl rfl ?_
    refine pg_iload_n (pc := 77) (i := 3) (j := 3) (x := v3) dX11_dry_77 rfl rfl ?_
    refine pg_callV (pc := 78) (As := [.int v2, .int v3]) (st := [.int ((6 * v2) + v3), .ref 227]) okX11_driedBehind lkX11_419 rfl h0.1 rfl (Nat.le_refl _) (Nat.le_of_ble_eq_true rfl) (e0 c0) dX11_dry_78 (fun r1 M1 w1 => ?_)
    obtain ⟨x1, rfl, w1⟩ := w1
    refine pg_iast (pc := 81) h0.2.2.2.2.2.2.2.2.2.2.2.2.2.2.2.2.2.2.2.2.1 (b0 c0 x1 M1 w1) dX11_dry_81 ?_
    refine pg_iinc (pc := 82) (i := 3) (j := 3) (x := v3) (v := v3 + 1) (ls' := [(3, .int (v3 + 1)), (0, .ref 207), (1, .int v1), (2, .int v2)]) dX11_dry_82 rfl rfl (by decide) rfl ?_
    refine pg_goto (pc := 85) (tgt := 59) dX11_dry_85 (by decide) ?_
    refine pg_drop (ks := [1, 2, 3, 0]) (ls' := [(0, .ref 207), (1, .int v1), (2, .int v2), (3, .int (v3 + 1))]) rfl ?_
    exact k1 c0 x1 M1 w1
theorem oX11_dry {d : Nat} {v1 : Int32} (h : pg_At S Λ YX11_dry d 0 [(0, .ref 207), (1, .int v1)] [] M P) : pg_Ev S Λ YX11_dry d [.ref 207, .int v1] M P := pg_Ev.of (by decide) (by first | decide | exact Nat.le_of_ble_eq_true rfl) h
theorem sX11_feel_0 {v1 : Int32} {v2 : Int32} {v3 : Int32} {Q0 : Int32 → pg_M → Prop} {Q1 : Int32 → pg_M → Prop} {Q2 : Int32 → pg_M → Prop}
    (h0 : pg_isX11 Λ)
    (e0 : pg_Ev S Λ YX11_isCloth d [.ref 207, .int v1] (pg_si M 207 0 0) (fun r M' => ∃ x, r = some (.int x) ∧ Q0 x M'))
    (k0 : ∀ x1 M1, Q0 x1 M1 → (x1 = 0) → P (some (.int 0)) M1)
    (e1 : ∀ x1 M1, Q0 x1 M1 → (¬ x1 = 0) → pg_Ev S Λ YX11_within d [.int v2, .int 0, .int 12] M1 (fun r M' => ∃ x, r = some (.int x) ∧ Q1 x M'))
    (k1 : ∀ x1 M1, Q0 x1 M1 → (¬ x1 = 0) → ∀ x2 M2, Q1 x2 M2 → (x2 = 0) → P (some (.int 0)) M2)
    (e2 : ∀ x1 M1, Q0 x1 M1 → (¬ x1 = 0) → ∀ x2 M2, Q1 x2 M2 → (¬ x2 = 0) → pg_Ev S Λ YX11_within d [.int v3, .int 0, .int 9] M2 (fun r M' => ∃ x, r = some (.int x) ∧ Q2 x M'))
    (k2 : ∀ x1 M1, Q0 x1 M1 → (¬ x1 = 0) → ∀ x2 M2, Q1 x2 M2 → (¬ x2 = 0) → ∀ x3 M3, Q2 x3 M3 → (x3 = 0) → P (some (.int 0)) M3)
    (b0 : ∀ x1 M1, Q0 x1 M1 → (¬ x1 = 0) → ∀ x2 M2, Q1 x2 M2 → (¬ x2 = 0) → ∀ x3 M3, Q2 x3 M3 → (¬ x3 = 0) → (¬ (M3.1 221 (28 : Int32).toNatClampNeg) = 8) → vp_in (29 + (3 * (M3.1 221 (28 : Int32).toNatClampNeg))) 1242)
    (b1 : ∀ x1 M1, Q0 x1 M1 → (¬ x1 = 0) → ∀ x2 M2, Q1 x2 M2 → (¬ x2 = 0) → ∀ x3 M3, Q2 x3 M3 → (¬ x3 = 0) → (¬ (M3.1 221 (28 : Int32).toNatClampNeg) = 8) → vp_in ((29 + (3 * (M3.1 221 (28 : Int32).toNatClampNeg))) + 1) 1242)
    (b2 : ∀ x1 M1, Q0 x1 M1 → (¬ x1 = 0) → ∀ x2 M2, Q1 x2 M2 → (¬ x2 = 0) → ∀ x3 M3, Q2 x3 M3 → (¬ x3 = 0) → (¬ (M3.1 221 (28 : Int32).toNatClampNeg) = 8) → ∀ N1, N1 = pg_si (pg_si M3 221 (29 + (3 * (M3.1 221 (28 : Int32).toNatClampNeg))).toNatClampNeg v1) 221 ((29 + (3 * (M3.1 221 (28 : Int32).toNatClampNeg))) + 1).toNatClampNeg v2 → vp_in ((29 + (3 * (M3.1 221 (28 : Int32).toNatClampNeg))) + 2) 1242)
    (k3 : ∀ x1 M1, Q0 x1 M1 → (¬ x1 = 0) → ∀ x2 M2, Q1 x2 M2 → (¬ x2 = 0) → ∀ x3 M3, Q2 x3 M3 → (¬ x3 = 0) → (¬ (M3.1 221 (28 : Int32).toNatClampNeg) = 8) → ∀ N1, N1 = pg_si (pg_si M3 221 (29 + (3 * (M3.1 221 (28 : Int32).toNatClampNeg))).toNatClampNeg v1) 221 ((29 + (3 * (M3.1 221 (28 : Int32).toNatClampNeg))) + 1).toNatClampNeg v2 → ∀ N2, N2 = pg_si (pg_si N1 221 ((29 + (3 * (M3.1 221 (28 : Int32).toNatClampNeg))) + 2).toNatClampNeg v3) 221 (28 : Int32).toNatClampNeg (((pg_si N1 221 ((29 + (3 * (M3.1 221 (28 : Int32).toNatClampNeg))) + 2).toNatClampNeg v3).1 221 (28 : Int32).toNatClampNeg) + 1) → P (some (.int 1)) N2)
    (k4 : ∀ x1 M1, Q0 x1 M1 → (¬ x1 = 0) → ∀ x2 M2, Q1 x2 M2 → (¬ x2 = 0) → ∀ x3 M3, Q2 x3 M3 → (¬ x3 = 0) → ((M3.1 221 (28 : Int32).toNatClampNeg) = 8) → P (some (.int 0)) M3) :
    pg_At S Λ YX11_feel (d + 1) 0 [(0, .ref 207), (1, .int v1), (2, .int v2), (3, .int v3)] [] M P := by
  refine pg_aload_n (pc := 0) (i := 0) (j := 0) (x := 207) dX11_feel_0 rfl rfl ?_
  refine pg_iconst (pc := 1) (v := 0) dX11_feel_1 (by decide) ?_
  refine pfX11_1 (pc := 2) rfl h0 dX11_feel_2 ?_
  refine pg_aload_n (pc := 5) (i := 0) (j := 0) (x := 207) dX11_feel_5 rfl rfl ?_
  refine pg_iload_n (pc := 6) (i := 1) (j := 1) (x := v1) dX11_feel_6 rfl rfl ?_
  refine pg_callV (pc := 7) (As := [.int v1]) (st := []) okX11_isCloth lkX11_346 rfl h0.1 rfl (Nat.le_refl _) (Nat.le_of_ble_eq_true rfl) e0 dX11_feel_7 (fun r1 M1 w1 => ?_)
  obtain ⟨x1, rfl, w1⟩ := w1
  refine pg_if_eq (pc := 10) (tgt := 45) dX11_feel_10 (by decide) (fun c0 => ?_) (fun c0 => ?_)
  · skip
    refine pg_iconst (pc := 45) (v := 0) dX11_feel_45 (by decide) ?_
    exact pg_zret (pc := 46) rfl rfl dX11_feel_46 (k0 x1 M1 w1 c0)
  · skip
    refine pg_iload_n (pc := 13) (i := 2) (j := 2) (x := v2) dX11_feel_13 rfl rfl ?_
    refine pg_iconst (pc := 14) (v := 0) dX11_feel_14 (by decide) ?_
    refine pg_bipush (pc := 15) (v := 12) dX11_feel_15 (by decide) ?_
    refine pg_callS (pc := 17) (As := [.int v2, .int 0, .int 12]) (st := []) okX11_within lkX11_349 rfl (Nat.le_refl _) (Nat.le_of_ble_eq_true rfl) (e1 x1 M1 w1 c0) dX11_feel_17 (fun r2 M2 w2 => ?_)
    obtain ⟨x2, rfl, w2⟩ := w2
    refine pg_if_eq (pc := 20) (tgt := 45) dX11_feel_20 (by decide) (fun c1 => ?_) (fun c1 => ?_)
    · skip
      refine pg_iconst (pc := 45) (v := 0) dX11_feel_45 (by decide) ?_
      exact pg_zret (pc := 46) rfl rfl dX11_feel_46 (k1 x1 M1 w1 c0 x2 M2 w2 c1)
    · skip
      refine pg_iload_n (pc := 23) (i := 3) (j := 3) (x := v3) dX11_feel_23 rfl rfl ?_
      refine pg_iconst (pc := 24) (v := 0) dX11_feel_24 (by decide) ?_
      refine pg_bipush (pc := 25) (v := 9) dX11_feel_25 (by decide) ?_
      refine pg_callS (pc := 27) (As := [.int v3, .int 0, .int 9]) (st := []) okX11_within lkX11_349 rfl (Nat.le_refl _) (Nat.le_of_ble_eq_true rfl) (e2 x1 M1 w1 c0 x2 M2 w2 c1) dX11_feel_27 (fun r3 M3 w3 => ?_)
      obtain ⟨x3, rfl, w3⟩ := w3
      refine pg_if_eq (pc := 30) (tgt := 45) dX11_feel_30 (by decide) (fun c2 => ?_) (fun c2 => ?_)
      · skip
        refine pg_iconst (pc := 45) (v := 0) dX11_feel_45 (by decide) ?_
        exact pg_zret (pc := 46) rfl rfl dX11_feel_46 (k2 x1 M1 w1 c0 x2 M2 w2 c1 x3 M3 w3 c2)
      · skip
        refine pg_aload_n (pc := 33) (i := 0) (j := 0) (x := 207) dX11_feel_33 rfl rfl ?_
        refine gfX11_113 (pc := 34) rfl h0 dX11_feel_34 ?_
        refine pg_bipush (pc := 37) (v := 28) dX11_feel_37 (by decide) ?_
        refine pg_iald (pc := 39) h0.2.2.2.2.2.2.2.2.2.2.2.2.2.2.1 (by unfold vp_in; decide) dX11_feel_39 ?_
        refine pg_bipush (pc := 40) (v := 8) dX11_feel_40 (by decide) ?_
        refine pg_icmp_ne (pc := 42) (tgt := 47) dX11_feel_42 (by decide) (fun c3 => ?_) (fun c3 => ?_)
        · skip
          refine pg_bipush (pc := 47) (v := 29) dX11_feel_47 (by decide) ?_
          refine pg_iconst (pc := 49) (v := 3) dX11_feel_49 (by decide) ?_
          refine pg_aload_n (pc := 50) (i := 0) (j := 0) (x := 207) dX11_feel_50 rfl rfl ?_
          refine gfX11_113 (pc := 51) rfl h0 dX11_feel_51 ?_
          refine pg_bipush (pc := 54) (v := 28) dX11_feel_54 (by decide) ?_
          refine pg_iald (pc := 56) h0.2.2.2.2.2.2.2.2.2.2.2.2.2.2.1 (by unfold vp_in; decide) dX11_feel_56 ?_
          refine pg_imul (pc := 57) dX11_feel_57 ?_
          refine pg_iadd (pc := 58) dX11_feel_58 ?_
          refine pg_istore (pc := 59) (i := 4) (ls' := [(4, .int (29 + (3 * (M3.1 221 (28 : Int32).toNatClampNeg)))), (0, .ref 207), (1, .int v1), (2, .int v2), (3, .int v3)]) dX11_feel_59 (by decide) rfl ?_
          refine pg_aload_n (pc := 61) (i := 0) (j := 1) (x := 207) dX11_feel_61 rfl rfl ?_
          refine gfX11_113 (pc := 62) rfl h0 dX11_feel_62 ?_
          refine pg_iload (pc := 65) (i := 4) (j := 0) (x := (29 + (3 * (M3.1 221 (28 : Int32).toNatClampNeg)))) dX11_feel_65 rfl ?_
          refine pg_iload_n (pc := 67) (i := 1) (j := 2) (x := v1) dX11_feel_67 rfl rfl ?_
          refine pg_iast (pc := 68) h0.2.2.2.2.2.2.2.2.2.2.2.2.2.2.1 (b0 x1 M1 w1 c0 x2 M2 w2 c1 x3 M3 w3 c2 c3) dX11_feel_68 ?_
          refine pg_aload_n (pc := 69) (i := 0) (j := 1) (x := 207) dX11_feel_69 rfl rfl ?_
          refine gfX11_113 (pc := 70) rfl h0 dX11_feel_70 ?_
          refine pg_iload (pc := 73) (i := 4) (j := 0) (x := (29 + (3 * (M3.1 221 (28 : Int32).toNatClampNeg)))) dX11_feel_73 rfl ?_
          refine pg_iconst (pc := 75) (v := 1) dX11_feel_75 (by decide) ?_
          refine pg_iadd (pc := 76) dX11_feel_76 ?_
          refine pg_iload_n (pc := 77) (i := 2) (j := 3) (x := v2) dX11_feel_77 rfl rfl ?_
          refine pg_iast (pc := 78) h0.2.2.2.2.2.2.2.2.2.2.2.2.2.2.1 (b1 x1 M1 w1 c0 x2 M2 w2 c1 x3 M3 w3 c2 c3) dX11_feel_78 ?_
          refine pg_named (fun N1 u1 => ?_)
          refine pg_aload_n (pc := 79) (i := 0) (j := 1) (x := 207) dX11_feel_79 rfl rfl ?_
          refine gfX11_113 (pc := 80) rfl h0 dX11_feel_80 ?_
          refine pg_iload (pc := 83) (i := 4) (j := 0) (x := (29 + (3 * (M3.1 221 (28 : Int32).toNatClampNeg)))) dX11_feel_83 rfl ?_
          refine pg_iconst (pc := 85) (v := 2) dX11_feel_85 (by decide) ?_
          refine pg_iadd (pc := 86) dX11_feel_86 ?_
          refine pg_iload_n (pc := 87) (i := 3) (j := 4) (x := v3) dX11_feel_87 rfl rfl ?_
          refine pg_iast (pc := 88) h0.2.2.2.2.2.2.2.2.2.2.2.2.2.2.1 (b2 x1 M1 w1 c0 x2 M2 w2 c1 x3 M3 w3 c2 c3 N1 u1) dX11_feel_88 ?_
          refine pg_aload_n (pc := 89) (i := 0) (j := 1) (x := 207) dX11_feel_89 rfl rfl ?_
          refine gfX11_113 (pc := 90) rfl h0 dX11_feel_90 ?_
          refine pg_bipush (pc := 93) (v := 28) dX11_feel_93 (by decide) ?_
          refine pg_dup2_11 (pc := 95) dX11_feel_95 rfl rfl ?_
          refine pg_iald (pc := 96) h0.2.2.2.2.2.2.2.2.2.2.2.2.2.2.1 (by unfold vp_in; decide) dX11_feel_96 ?_
          refine pg_iconst (pc := 97) (v := 1) dX11_feel_97 (by decide) ?_
          refine pg_iadd (pc := 98) dX11_feel_98 ?_
          refine pg_iast (pc := 99) h0.2.2.2.2.2.2.2.2.2.2.2.2.2.2.1 (by unfold vp_in; decide) dX11_feel_99 ?_
          refine pg_named (fun N2 u2 => ?_)
          refine pg_iconst (pc := 100) (v := 1) dX11_feel_100 (by decide) ?_
          exact pg_zret (pc := 101) rfl rfl dX11_feel_101 (k3 x1 M1 w1 c0 x2 M2 w2 c1 x3 M3 w3 c2 c3 N1 u1 N2 u2)
        · skip
          refine pg_iconst (pc := 45) (v := 0) dX11_feel_45 (by decide) ?_
          exact pg_zret (pc := 46) rfl rfl dX11_feel_46 (k4 x1 M1 w1 c0 x2 M2 w2 c1 x3 M3 w3 c2 c3)
theorem oX11_feel {d : Nat} {v1 : Int32} {v2 : Int32} {v3 : Int32} (h : pg_At S Λ YX11_feel d 0 [(0, .ref 207), (1, .int v1), (2, .int v2), (3, .int v3)] [] M P) : pg_Ev S Λ YX11_feel d [.ref 207, .int v1, .int v2, .int v3] M P := pg_Ev.of (by decide) (by first | decide | exact Nat.le_of_ble_eq_true rfl) h
theorem sX11_wetBehind_0 {v1 : Int32} {v2 : Int32} {v3 : Int32} 
    (k0 : pg_At S Λ YX11_wetBehind (d + 1) 7 [(0, .ref 207), (1, .int v1), (2, .int v2), (3, .int v3), (4, .int 9), (5, .int 0)] [] M P) :
    pg_At S Λ YX11_wetBehind (d + 1) 0 [(0, .ref 207), (1, .int v1), (2, .int v2), (3, .int v3)] [] M P := by
  refine pg_bipush (pc := 0) (v := 9) dX11_wetBehind_0 (by decide) ?_
  refine pg_istore (pc := 2) (i := 4) (ls' := [(4, .int 9), (0, .ref 207), (1, .int v1), (2, .int v2), (3, .int v3)]) dX11_wetBehind_2 (by decide) rfl ?_
  refine pg_iconst (pc := 4) (v := 0) dX11_wetBehind_4 (by decide) ?_
  refine pg_istore (pc := 5) (i := 5) (ls' := [(5, .int 0), (4, .int 9), (0, .ref 207), (1, .int v1), (2, .int v2), (3, .int v3)]) dX11_wetBehind_5 (by decide) rfl ?_
  refine pg_drop (ks := [2, 3, 4, 5, 1, 0]) (ls' := [(0, .ref 207), (1, .int v1), (2, .int v2), (3, .int v3), (4, .int 9), (5, .int 0)]) rfl ?_
  exact k0
theorem sX11_wetBehind_7 {v1 : Int32} {v2 : Int32} {v3 : Int32} {v4 : Int32} {v5 : Int32} {Q0 : Int32 → pg_M → Prop} {Q1 : Int32 → pg_M → Prop}
    (h0 : pg_isX11 Λ)
    (k0 : (v3 ≤ v5) → P (some (.int v4)) M)
    (e0 : (¬ v3 ≤ v5) → pg_Ev S Λ YX11_windOf d [.ref 207, .int (v2 + v5), .int 0] M (fun r M' => ∃ x, r = some (.int x) ∧ Q0 x M'))
    (e1 : (¬ v3 ≤ v5) → ∀ x1 M1, Q0 x1 M1 → pg_Ev S Λ YX11_driedOf d [.ref 207, .int v1, .int v4, .int x1] M1 (fun r M' => ∃ x, r = some (.int x) ∧ Q1 x M'))
    (k1 : (¬ v3 ≤ v5) → ∀ x1 M1, Q0 x1 M1 → ∀ x2 M2, Q1 x2 M2 → pg_At S Λ YX11_wetBehind (d + 1) 7 [(0, .ref 207), (1, .int v1), (2, .int v2), (3, .int v3), (4, .int x2), (5, .int (v5 + 1))] [] M2 P) :
    pg_At S Λ YX11_wetBehind (d + 1) 7 [(0, .ref 207), (1, .int v1), (2, .int v2), (3, .int v3), (4, .int v4), (5, .int v5)] [] M P := by
  refine pg_iload (pc := 7) (i := 5) (j := 5) (x := v5) dX11_wetBehind_7 rfl ?_
  refine pg_iload_n (pc := 9) (i := 3) (j := 3) (x := v3) dX11_wetBehind_9 rfl rfl ?_
  refine pg_icmp_ge (pc := 10) (tgt := 37) dX11_wetBehind_10 (by decide) (fun c0 => ?_) (fun c0 => ?_)
  · skip
    refine pg_iload (pc := 37) (i := 4) (j := 4) (x := v4) dX11_wetBehind_37 rfl ?_
    exact pg_iret (pc := 39) rfl dX11_wetBehind_39 (k0 c0)
  · skip
    refine pg_aload_n (pc := 13) (i := 0) (j := 0) (x := 207) dX11_wetBehind_13 rfl rfl ?_
    refine pg_iload_n (pc := 14) (i := 1) (j := 1) (x := v1) dX11_wetBehind_14 rfl rfl ?_
    refine pg_iload (pc := 15) (i := 4) (j := 4) (x := v4) dX11_wetBehind_15 rfl ?_
    refine pg_aload_n (pc := 17) (i := 0) (j := 0) (x := 207) dX11_wetBehind_17 rfl rfl ?_
    refine pg_iload_n (pc := 18) (i := 2) (j := 2) (x := v2) dX11_wetBehind_18 rfl rfl ?_
    refine pg_iload (pc := 19) (i := 5) (j := 5) (x := v5) dX11_wetBehind_19 rfl ?_
    refine pg_iadd (pc := 21) dX11_wetBehind_21 ?_
    refine pg_iconst (pc := 22) (v := 0) dX11_wetBehind_22 (by decide) ?_
    refine pg_callV (pc := 23) (As := [.int (v2 + v5), .int 0]) (st := [.int v4, .int v1, .ref 207]) okX11_windOf lkX11_332 rfl h0.1 rfl (Nat.le_refl _) (Nat.le_of_ble_eq_true rfl) (e0 c0) dX11_wetBehind_23 (fun r1 M1 w1 => ?_)
    obtain ⟨x1, rfl, w1⟩ := w1
    refine pg_callV (pc := 26) (As := [.int v1, .int v4, .int x1]) (st := []) okX11_driedOf lkX11_340 rfl h0.1 rfl (Nat.le_refl _) (Nat.le_of_ble_eq_true rfl) (e1 c0 x1 M1 w1) dX11_wetBehind_26 (fun r2 M2 w2 => ?_)
    obtain ⟨x2, rfl, w2⟩ := w2
    refine pg_istore (pc := 29) (i := 4) (ls' := [(4, .int x2), (0, .ref 207), (1, .int v1), (2, .int v2), (3, .int v3), (5, .int v5)]) dX11_wetBehind_29 (by decide) rfl ?_
    refine pg_iinc (pc := 31) (i := 5) (j := 5) (x := v5) (v := v5 + 1) (ls' := [(5, .int (v5 + 1)), (4, .int x2), (0, .ref 207), (1, .int v1), (2, .int v2), (3, .int v3)]) dX11_wetBehind_31 rfl rfl (by decide) rfl ?_
    refine pg_goto (pc := 34) (tgt := 7) dX11_wetBehind_34 (by decide) ?_
    refine pg_drop (ks := [2, 3, 4, 5, 1, 0]) (ls' := [(0, .ref 207), (1, .int v1), (2, .int v2), (3, .int v3), (4, .int x2), (5, .int (v5 + 1))]) rfl ?_
    exact k1 c0 x1 M1 w1 x2 M2 w2
theorem oX11_wetBehind {d : Nat} {v1 : Int32} {v2 : Int32} {v3 : Int32} (h : pg_At S Λ YX11_wetBehind d 0 [(0, .ref 207), (1, .int v1), (2, .int v2), (3, .int v3)] [] M P) : pg_Ev S Λ YX11_wetBehind d [.ref 207, .int v1, .int v2, .int v3] M P := pg_Ev.of (by decide) (by first | decide | exact Nat.le_of_ble_eq_true rfl) h
theorem sX11_startsNow_0  
    (k0 : pg_At S Λ YX11_startsNow (d + 1) 4 [(0, .ref 207), (1, .int 0), (2, .int 0)] [] M P) :
    pg_At S Λ YX11_startsNow (d + 1) 0 [(0, .ref 207)] [] M P := by
  refine pg_iconst (pc := 0) (v := 0) dX11_startsNow_0 (by decide) ?_
  refine pg_istore_n (pc := 1) (i := 1) (ls' := [(1, .int 0), (0, .ref 207)]) dX11_startsNow_1 rfl (by decide) rfl ?_
  refine pg_iconst (pc := 2) (v := 0) dX11_startsNow_2 (by decide) ?_
  refine pg_istore_n (pc := 3) (i := 2) (ls' := [(2, .int 0), (1, .int 0), (0, .ref 207)]) dX11_startsNow_3 rfl (by decide) rfl ?_
  refine pg_drop (ks := [2, 1, 0]) (ls' := [(0, .ref 207), (1, .int 0), (2, .int 0)]) rfl ?_
  exact k0
theorem sX11_startsNow_4 {v1 : Int32} {v2 : Int32} 
    (h0 : pg_isX11 Λ)
    (k0 : ((M.1 213 (2 : Int32).toNatClampNeg) ≤ v2) → P (some (.int v1)) M)
    (k1 : (¬ (M.1 213 (2 : Int32).toNatClampNeg) ≤ v2) → pg_At S Λ YX11_startsNow (d + 1) 19 [(0, .ref 207), (1, .int v1), (2, .int v2), (3, .int 1), (4, .int 0)] [] M P) :
    pg_At S Λ YX11_startsNow (d + 1) 4 [(0, .ref 207), (1, .int v1), (2, .int v2)] [] M P := by
  refine pg_iload_n (pc := 4) (i := 2) (j := 2) (x := v2) dX11_startsNow_4 rfl rfl ?_
  refine pg_aload_n (pc := 5) (i := 0) (j := 0) (x := 207) dX11_startsNow_5 rfl rfl ?_
  refine gfX11_89 (pc := 6) rfl h0 dX11_startsNow_6 ?_
  refine pg_iconst (pc := 9) (v := 2) dX11_startsNow_9 (by decide) ?_
  refine pg_iald (pc := 10) h0.2.2.2.2.2.2.1 (by unfold vp_in; decide) dX11_startsNow_10 ?_
  refine pg_icmp_ge (pc := 11) (tgt := 109) dX11_startsNow_11 (by decide) (fun c0 => ?_) (fun c0 => ?_)
  · skip
    refine pg_iload_n (pc := 109) (i := 1) (j := 1) (x := v1) dX11_startsNow_109 rfl rfl ?_
    exact pg_iret (pc := 110) rfl dX11_startsNow_110 (k0 c0)
  · skip
    refine pg_iconst (pc := 14) (v := 1) dX11_startsNow_14 (by decide) ?_
    refine pg_istore_n (pc := 15) (i := 3) (ls' := [(3, .int 1), (0, .ref 207), (1, .int v1), (2, .int v2)]) dX11_startsNow_15 rfl (by decide) rfl ?_
    refine pg_iconst (pc := 16) (v := 0) dX11_startsNow_16 (by decide) ?_
    refine pg_istore (pc := 17) (i := 4) (ls' := [(4, .int 0), (3, .int 1), (0, .ref 207), (1, .int v1), (2, .int v2)]) dX11_startsNow_17 (by decide) rfl ?_
    refine pg_drop (ks := [2, 3, 4, 1, 0]) (ls' := [(0, .ref 207), (1, .int v1), (2, .int v2), (3, .int 1), (4, .int 0)]) rfl ?_
    exact k1 c0
theorem sX11_startsNow_19 {v1 : Int32} {v2 : Int32} {v3 : Int32} {v4 : Int32} {Q0 : Int32 → pg_M → Prop}
    (h0 : pg_isX11 Λ)
    (k0 : ((M.1 221 (28 : Int32).toNatClampNeg) ≤ v4) → (v3 = 0) → pg_At S Λ YX11_startsNow (d + 1) 4 [(0, .ref 207), (1, .int (v1 ||| 0)), (2, .int (v2 + 1))] [] M P)
    (k1 : ((M.1 221 (28 : Int32).toNatClampNeg) ≤ v4) → (¬ v3 = 0) → pg_At S Λ YX11_startsNow (d + 1) 4 [(0, .ref 207), (1, .int (v1 ||| ((1 : Int32) <<< (v2 &&& 31)))), (2, .int (v2 + 1))] [] M P)
    (k2 : (¬ (M.1 221 (28 : Int32).toNatClampNeg) ≤ v4) → (v3 = 0) → pg_At S Λ YX11_startsNow (d + 1) 19 [(0, .ref 207), (1, .int v1), (2, .int v2), (3, .int 0), (4, .int (v4 + 1))] [] M P)
    (b0 : (¬ (M.1 221 (28 : Int32).toNatClampNeg) ≤ v4) → (¬ v3 = 0) → vp_in (29 + (3 * v4)) 1242)
    (b1 : (¬ (M.1 221 (28 : Int32).toNatClampNeg) ≤ v4) → (¬ v3 = 0) → vp_in ((29 + (3 * v4)) + 1) 1242)
    (e0 : (¬ (M.1 221 (28 : Int32).toNatClampNeg) ≤ v4) → (¬ v3 = 0) → pg_Ev S Λ YX11_wetBehind d [.ref 207, .int (M.1 221 (29 + (3 * v4)).toNatClampNeg), .int v2, .int (M.1 221 ((29 + (3 * v4)) + 1).toNatClampNeg)] M (fun r M' => ∃ x, r = some (.int x) ∧ Q0 x M'))
    (b2 : (¬ (M.1 221 (28 : Int32).toNatClampNeg) ≤ v4) → (¬ v3 = 0) → ∀ x1 M1, Q0 x1 M1 → vp_in ((29 + (3 * v4)) + 2) 1242)
    (k3 : (¬ (M.1 221 (28 : Int32).toNatClampNeg) ≤ v4) → (¬ v3 = 0) → ∀ x1 M1, Q0 x1 M1 → (¬ x1 = (M1.1 221 ((29 + (3 * v4)) + 2).toNatClampNeg)) → pg_At S Λ YX11_startsNow (d + 1) 19 [(0, .ref 207), (1, .int v1), (2, .int v2), (3, .int 0), (4, .int (v4 + 1))] [] M1 P)
    (k4 : (¬ (M.1 221 (28 : Int32).toNatClampNeg) ≤ v4) → (¬ v3 = 0) → ∀ x1 M1, Q0 x1 M1 → (x1 = (M1.1 221 ((29 + (3 * v4)) + 2).toNatClampNeg)) → pg_At S Λ YX11_startsNow (d + 1) 19 [(0, .ref 207), (1, .int v1), (2, .int v2), (3, .int 1), (4, .int (v4 + 1))] [] M1 P) :
    pg_At S Λ YX11_startsNow (d + 1) 19 [(0, .ref 207), (1, .int v1), (2, .int v2), (3, .int v3), (4, .int v4)] [] M P := by
  refine pg_iload (pc := 19) (i := 4) (j := 4) (x := v4) dX11_startsNow_19 rfl ?_
  refine pg_aload_n (pc := 21) (i := 0) (j := 0) (x := 207) dX11_startsNow_21 rfl rfl ?_
  refine gfX11_113 (pc := 22) rfl h0 dX11_startsNow_22 ?_
  refine pg_bipush (pc := 25) (v := 28) dX11_startsNow_25 (by decide) ?_
  refine pg_iald (pc := 27) h0.2.2.2.2.2.2.2.2.2.2.2.2.2.2.1 (by unfold vp_in; decide) dX11_startsNow_27 ?_
  refine pg_icmp_ge (pc := 28) (tgt := 89) dX11_startsNow_28 (by decide) (fun c0 => ?_) (fun c0 => ?_)
  · skip
    refine pg_iload_n (pc := 89) (i := 1) (j := 1) (x := v1) dX11_startsNow_89 rfl rfl ?_
    refine pg_iload_n (pc := 90) (i := 3) (j := 3) (x := v3) dX11_startsNow_90 rfl rfl ?_
    refine pg_if_eq (pc := 91) (tgt := 100) dX11_startsNow_91 (by decide) (fun c1 => ?_) (fun c1 => ?_)
    · skip
      refine pg_iconst (pc := 100) (v := 0) dX11_startsNow_100 (by decide) ?_
      refine pg_ior (pc := 101) dX11_startsNow_101 ?_
      refine pg_istore_n (pc := 102) (i := 1) (ls' := [(1, .int (v1 ||| 0)), (0, .ref 207), (2, .int v2), (3, .int v3), (4, .int v4)]) dX11_startsNow_102 rfl (by decide) rfl ?_
      refine pg_iinc (pc := 103) (i := 2) (j := 2) (x := v2) (v := v2 + 1) (ls' := [(2, .int (v2 + 1)), (1, .int (v1 ||| 0)), (0, .ref 207), (3, .int v3), (4, .int v4)]) dX11_startsNow_103 rfl rfl (by decide) rfl ?_
      refine pg_goto (pc := 106) (tgt := 4) dX11_startsNow_106 (by decide) ?_
      refine pg_drop (ks := [2, 1, 0]) (ls' := [(0, .ref 207), (1, .int (v1 ||| 0)), (2, .int (v2 + 1))]) rfl ?_
      exact k0 c0 c1
    · skip
      refine pg_iconst (pc := 94) (v := 1) dX11_startsNow_94 (by decide) ?_
      refine pg_iload_n (pc := 95) (i := 2) (j := 2) (x := v2) dX11_startsNow_95 rfl rfl ?_
      refine pg_ishl (pc := 96) dX11_startsNow_96 ?_
      refine pg_goto (pc := 97) (tgt := 101) dX11_startsNow_97 (by decide) ?_
      refine pg_ior (pc := 101) dX11_startsNow_101 ?_
      refine pg_istore_n (pc := 102) (i := 1) (ls' := [(1, .int (v1 ||| ((1 : Int32) <<< (v2 &&& 31)))), (0, .ref 207), (2, .int v2), (3, .int v3), (4, .int v4)]) dX11_startsNow_102 rfl (by decide) rfl ?_
      refine pg_iinc (pc := 103) (i := 2) (j := 2) (x := v2) (v := v2 + 1) (ls' := [(2, .int (v2 + 1)), (1, .int (v1 ||| ((1 : Int32) <<< (v2 &&& 31)))), (0, .ref 207), (3, .int v3), (4, .int v4)]) dX11_startsNow_103 rfl rfl (by decide) rfl ?_
      refine pg_goto (pc := 106) (tgt := 4) dX11_startsNow_106 (by decide) ?_
      refine pg_drop (ks := [2, 1, 0]) (ls' := [(0, .ref 207), (1, .int (v1 ||| ((1 : Int32) <<< (v2 &&& 31)))), (2, .int (v2 + 1))]) rfl ?_
      exact k1 c0 c1
  · skip
    refine pg_bipush (pc := 31) (v := 29) dX11_startsNow_31 (by decide) ?_
    refine pg_iconst (pc := 33) (v := 3) dX11_startsNow_33 (by decide) ?_
    refine pg_iload (pc := 34) (i := 4) (j := 4) (x := v4) dX11_startsNow_34 rfl ?_
    refine pg_imul (pc := 36) dX11_startsNow_36 ?_
    refine pg_iadd (pc := 37) dX11_startsNow_37 ?_
    refine pg_istore (pc := 38) (i := 5) (ls' := [(5, .int (29 + (3 * v4))), (0, .ref 207), (1, .int v1), (2, .int v2), (3, .int v3), (4, .int v4)]) dX11_startsNow_38 (by decide) rfl ?_
    refine pg_iload_n (pc := 40) (i := 3) (j := 4) (x := v3) dX11_startsNow_40 rfl rfl ?_
    refine pg_if_eq (pc := 41) (tgt := 81) dX11_startsNow_41 (by decide) (fun c1 => ?_) (fun c1 => ?_)
    · skip
      refine pg_iconst (pc := 81) (v := 0) dX11_startsNow_81 (by decide) ?_
      refine pg_istore_n (pc := 82) (i := 3) (ls' := [(3, .int 0), (5, .int (29 + (3 * v4))), (0, .ref 207), (1, .int v1), (2, .int v2), (4, .int v4)]) dX11_startsNow_82 rfl (by decide) rfl ?_
      refine pg_iinc (pc := 83) (i := 4) (j := 5) (x := v4) (v := v4 + 1) (ls' := [(4, .int (v4 + 1)), (3, .int 0), (5, .int (29 + (3 * v4))), (0, .ref 207), (1, .int v1), (2, .int v2)]) dX11_startsNow_83 rfl rfl (by decide) rfl ?_
      refine pg_goto (pc := 86) (tgt := 19) dX11_startsNow_86 (by decide) ?_
      refine pg_drop (ks := [3, 4, 5, 1, 0]) (ls' := [(0, .ref 207), (1, .int v1), (2, .int v2), (3, .int 0), (4, .int (v4 + 1))]) rfl ?_
      exact k2 c0 c1
    · skip
      refine pg_aload_n (pc := 44) (i := 0) (j := 1) (x := 207) dX11_startsNow_44 rfl rfl ?_
      refine pg_aload_n (pc := 45) (i := 0) (j := 1) (x := 207) dX11_startsNow_45 rfl rfl ?_
      refine gfX11_113 (pc := 46) rfl h0 dX11_startsNow_46 ?_
      refine pg_iload (pc := 49) (i := 5) (j := 0) (x := (29 + (3 * v4))) dX11_startsNow_49 rfl ?_
      refine pg_iald (pc := 51) h0.2.2.2.2.2.2.2.2.2.2.2.2.2.2.1 (b0 c0 c1) dX11_startsNow_51 ?_
      refine pg_iload_n (pc := 52) (i := 2) (j := 3) (x := v2) dX11_startsNow_52 rfl rfl ?_
      refine pg_aload_n (pc := 53) (i := 0) (j := 1) (x := 207) dX11_startsNow_53 rfl rfl ?_
      refine gfX11_113 (pc := 54) rfl h0 dX11_startsNow_54 ?_
      refine pg_iload (pc := 57) (i := 5) (j := 0) (x := (29 + (3 * v4))) dX11_startsNow_57 rfl ?_
      refine pg_iconst (pc := 59) (v := 1) dX11_startsNow_59 (by decide) ?_
      refine pg_iadd (pc := 60) dX11_startsNow_60 ?_
      refine pg_iald (pc := 61) h0.2.2.2.2.2.2.2.2.2.2.2.2.2.2.1 (b1 c0 c1) dX11_startsNow_61 ?_
      refine pg_callV (pc := 62) (As := [.int (M.1 221 (29 + (3 * v4)).toNatClampNeg), .int v2, .int (M.1 221 ((29 + (3 * v4)) + 1).toNatClampNeg)]) (st := []) okX11_wetBehind lkX11_422 rfl h0.1 rfl (Nat.le_refl _) (Nat.le_of_ble_eq_true rfl) (e0 c0 c1) dX11_startsNow_62 (fun r1 M1 w1 => ?_)
      obtain ⟨x1, rfl, w1⟩ := w1
      refine pg_aload_n (pc := 65) (i := 0) (j := 1) (x := 207) dX11_startsNow_65 rfl rfl ?_
      refine gfX11_113 (pc := 66) rfl h0 dX11_startsNow_66 ?_
      refine pg_iload (pc := 69) (i := 5) (j := 0) (x := (29 + (3 * v4))) dX11_startsNow_69 rfl ?_
      refine pg_iconst (pc := 71) (v := 2) dX11_startsNow_71 (by decide) ?_
      refine pg_iadd (pc := 72) dX11_startsNow_72 ?_
      refine pg_iald (pc := 73) h0.2.2.2.2.2.2.2.2.2.2.2.2.2.2.1 (b2 c0 c1 x1 M1 w1) dX11_startsNow_73 ?_
      refine pg_icmp_ne (pc := 74) (tgt := 81) dX11_startsNow_74 (by decide) (fun c2 => ?_) (fun c2 => ?_)
      · skip
        refine pg_iconst (pc := 81) (v := 0) dX11_startsNow_81 (by decide) ?_
        refine pg_istore_n (pc := 82) (i := 3) (ls' := [(3, .int 0), (5, .int (29 + (3 * v4))), (0, .ref 207), (1, .int v1), (2, .int v2), (4, .int v4)]) dX11_startsNow_82 rfl (by decide) rfl ?_
        refine pg_iinc (pc := 83) (i := 4) (j := 5) (x := v4) (v := v4 + 1) (ls' := [(4, .int (v4 + 1)), (3, .int 0), (5, .int (29 + (3 * v4))), (0, .ref 207), (1, .int v1), (2, .int v2)]) dX11_startsNow_83 rfl rfl (by decide) rfl ?_
        refine pg_goto (pc := 86) (tgt := 19) dX11_startsNow_86 (by decide) ?_
        refine pg_drop (ks := [3, 4, 5, 1, 0]) (ls' := [(0, .ref 207), (1, .int v1), (2, .int v2), (3, .int 0), (4, .int (v4 + 1))]) rfl ?_
        exact k3 c0 c1 x1 M1 w1 c2
      · skip
        refine pg_iconst (pc := 77) (v := 1) dX11_startsNow_77 (by decide) ?_
        refine pg_goto (pc := 78) (tgt := 82) dX11_startsNow_78 (by decide) ?_
        refine pg_istore_n (pc := 82) (i := 3) (ls' := [(3, .int 1), (5, .int (29 + (3 * v4))), (0, .ref 207), (1, .int v1), (2, .int v2), (4, .int v4)]) dX11_startsNow_82 rfl (by decide) rfl ?_
        refine pg_iinc (pc := 83) (i := 4) (j := 5) (x := v4) (v := v4 + 1) (ls' := [(4, .int (v4 + 1)), (3, .int 1), (5, .int (29 + (3 * v4))), (0, .ref 207), (1, .int v1), (2, .int v2)]) dX11_startsNow_83 rfl rfl (by decide) rfl ?_
        refine pg_goto (pc := 86) (tgt := 19) dX11_startsNow_86 (by decide) ?_
        refine pg_drop (ks := [3, 4, 5, 1, 0]) (ls' := [(0, .ref 207), (1, .int v1), (2, .int v2), (3, .int 1), (4, .int (v4 + 1))]) rfl ?_
        exact k4 c0 c1 x1 M1 w1 c2
theorem oX11_startsNow {d : Nat}  (h : pg_At S Λ YX11_startsNow d 0 [(0, .ref 207)] [] M P) : pg_Ev S Λ YX11_startsNow d [.ref 207] M P := pg_Ev.of (by decide) (by first | decide | exact Nat.le_of_ble_eq_true rfl) h
theorem sX11_starts__0  {Q0 : Int32 → pg_M → Prop}
    (h0 : pg_isX11 Λ)
    (e0 : pg_Ev S Λ YX11_startsNow d [.ref 207] (pg_si M 207 0 0) (fun r M' => ∃ x, r = some (.int x) ∧ Q0 x M'))
    (k0 : ∀ x1 M1, Q0 x1 M1 → P (some (.int x1)) M1) :
    pg_At S Λ YX11_starts_ (d + 1) 0 [(0, .ref 207)] [] M P := by
  refine pg_aload_n (pc := 0) (i := 0) (j := 0) (x := 207) dX11_starts__0 rfl rfl ?_
  refine pg_iconst (pc := 1) (v := 0) dX11_starts__1 (by decide) ?_
  refine pfX11_1 (pc := 2) rfl h0 dX11_starts__2 ?_
  refine pg_aload_n (pc := 5) (i := 0) (j := 0) (x := 207) dX11_starts__5 rfl rfl ?_
  refine pg_callV (pc := 6) (As := []) (st := []) okX11_startsNow lkX11_425 rfl h0.1 rfl (Nat.le_refl _) (Nat.le_of_ble_eq_true rfl) e0 dX11_starts__6 (fun r1 M1 w1 => ?_)
  obtain ⟨x1, rfl, w1⟩ := w1
  exact pg_iret (pc := 9) rfl dX11_starts__9 (k0 x1 M1 w1)
theorem oX11_starts_ {d : Nat}  (h : pg_At S Λ YX11_starts_ d 0 [(0, .ref 207)] [] M P) : pg_Ev S Λ YX11_starts_ d [.ref 207] M P := pg_Ev.of (by decide) (by first | decide | exact Nat.le_of_ble_eq_true rfl) h
theorem sX11_ask_0 {v1 : Int32} {Q0 : Int32 → pg_M → Prop} {Q1 : Int32 → pg_M → Prop} {Q2 : Int32 → pg_M → Prop}
    (h0 : pg_isX11 Λ)
    (e0 : pg_Ev S Λ YX11_isCloth d [.ref 207, .int v1] (pg_si M 207 0 0) (fun r M' => ∃ x, r = some (.int x) ∧ Q0 x M'))
    (e1 : ∀ x1 M1, Q0 x1 M1 → (¬ x1 = 0) → pg_Ev S Λ YX11_startsNow d [.ref 207] M1 (fun r M' => ∃ x, r = some (.int x) ∧ Q1 x M'))
    (e2 : ∀ x1 M1, Q0 x1 M1 → (¬ x1 = 0) → ∀ x2 M2, Q1 x2 M2 → pg_Ev S Λ YX11_bits d [.int x2] M2 (fun r M' => ∃ x, r = some (.int x) ∧ Q2 x M'))
    (k0 : ∀ x1 M1, Q0 x1 M1 → (¬ x1 = 0) → ∀ x2 M2, Q1 x2 M2 → ∀ x3 M3, Q2 x3 M3 → pg_At S Λ YX11_ask (d + 1) 31 [(0, .ref 207), (1, .int v1), (2, .int x2), (3, .int (-1)), (4, .int x3), (5, .int 0)] [] M3 P)
    (k1 : ∀ x1 M1, Q0 x1 M1 → (x1 = 0) → P (some (.int (-1))) M1) :
    pg_At S Λ YX11_ask (d + 1) 0 [(0, .ref 207), (1, .int v1)] [] M P := by
  refine pg_aload_n (pc := 0) (i := 0) (j := 0) (x := 207) dX11_ask_0 rfl rfl ?_
  refine pg_iconst (pc := 1) (v := 0) dX11_ask_1 (by decide) ?_
  refine pfX11_1 (pc := 2) rfl h0 dX11_ask_2 ?_
  refine pg_aload_n (pc := 5) (i := 0) (j := 0) (x := 207) dX11_ask_5 rfl rfl ?_
  refine pg_iload_n (pc := 6) (i := 1) (j := 1) (x := v1) dX11_ask_6 rfl rfl ?_
  refine pg_callV (pc := 7) (As := [.int v1]) (st := []) okX11_isCloth lkX11_346 rfl h0.1 rfl (Nat.le_refl _) (Nat.le_of_ble_eq_true rfl) e0 dX11_ask_7 (fun r1 M1 w1 => ?_)
  obtain ⟨x1, rfl, w1⟩ := w1
  refine pg_if_ne (pc := 10) (tgt := 15) dX11_ask_10 (by decide) (fun c0 => ?_) (fun c0 => ?_)
  · skip
    refine pg_aload_n (pc := 15) (i := 0) (j := 0) (x := 207) dX11_ask_15 rfl rfl ?_
    refine pg_callV (pc := 16) (As := []) (st := []) okX11_startsNow lkX11_425 rfl h0.1 rfl (Nat.le_refl _) (Nat.le_of_ble_eq_true rfl) (e1 x1 M1 w1 c0) dX11_ask_16 (fun r2 M2 w2 => ?_)
    obtain ⟨x2, rfl, w2⟩ := w2
    refine pg_istore_n (pc := 19) (i := 2) (ls' := [(2, .int x2), (0, .ref 207), (1, .int v1)]) dX11_ask_19 rfl (by decide) rfl ?_
    refine pg_iconst (pc := 20) (v := (-1)) dX11_ask_20 (by decide) ?_
    refine pg_istore_n (pc := 21) (i := 3) (ls' := [(3, .int (-1)), (2, .int x2), (0, .ref 207), (1, .int v1)]) dX11_ask_21 rfl (by decide) rfl ?_
    refine pg_iload_n (pc := 22) (i := 2) (j := 1) (x := x2) dX11_ask_22 rfl rfl ?_
    refine pg_callS (pc := 23) (As := [.int x2]) (st := []) okX11_bits lkX11_298 rfl (Nat.le_refl _) (Nat.le_of_ble_eq_true rfl) (e2 x1 M1 w1 c0 x2 M2 w2) dX11_ask_23 (fun r3 M3 w3 => ?_)
    obtain ⟨x3, rfl, w3⟩ := w3
    refine pg_istore (pc := 26) (i := 4) (ls' := [(4, .int x3), (3, .int (-1)), (2, .int x2), (0, .ref 207), (1, .int v1)]) dX11_ask_26 (by decide) rfl ?_
    refine pg_iconst (pc := 28) (v := 0) dX11_ask_28 (by decide) ?_
    refine pg_istore (pc := 29) (i := 5) (ls' := [(5, .int 0), (4, .int x3), (3, .int (-1)), (2, .int x2), (0, .ref 207), (1, .int v1)]) dX11_ask_29 (by decide) rfl ?_
    refine pg_drop (ks := [4, 5, 3, 2, 1, 0]) (ls' := [(0, .ref 207), (1, .int v1), (2, .int x2), (3, .int (-1)), (4, .int x3), (5, .int 0)]) rfl ?_
    exact k0 x1 M1 w1 c0 x2 M2 w2 x3 M3 w3
  · skip
    refine pg_iconst (pc := 13) (v := (-1)) dX11_ask_13 (by decide) ?_
    exact pg_iret (pc := 14) rfl dX11_ask_14 (k1 x1 M1 w1 c0)
theorem sX11_ask_31 {v1 : Int32} {v2 : Int32} {v3 : Int32} {v4 : Int32} {v5 : Int32} 
    (k0 : (12 < v5) → P (some (.int v3)) M)
    (k1 : (¬ 12 < v5) → pg_At S Λ YX11_ask (d + 1) 41 [(0, .ref 207), (1, .int v1), (2, .int v2), (3, .int v3), (4, .int v4), (5, .int v5), (6, .int 0)] [] M P) :
    pg_At S Λ YX11_ask (d + 1) 31 [(0, .ref 207), (1, .int v1), (2, .int v2), (3, .int v3), (4, .int v4), (5, .int v5)] [] M P := by
  refine pg_iload (pc := 31) (i := 5) (j := 5) (x := v5) dX11_ask_31 rfl ?_
  refine pg_bipush (pc := 33) (v := 12) dX11_ask_33 (by decide) ?_
  refine pg_icmp_gt (pc := 35) (tgt := 174) dX11_ask_35 (by decide) (fun c0 => ?_) (fun c0 => ?_)
  · skip
    refine pg_iload_n (pc := 174) (i := 3) (j := 3) (x := v3) dX11_ask_174 rfl rfl ?_
    exact pg_iret (pc := 175) rfl dX11_ask_175 (k0 c0)
  · skip
    refine pg_iconst (pc := 38) (v := 0) dX11_ask_38 (by decide) ?_
    refine pg_istore (pc := 39) (i := 6) (ls' := [(6, .int 0), (0, .ref 207), (1, .int v1), (2, .int v2), (3, .int v3), (4, .int v4), (5, .int v5)]) dX11_ask_39 (by decide) rfl ?_
    refine pg_drop (ks := [1, 2, 3, 4, 5, 6, 0]) (ls' := [(0, .ref 207), (1, .int v1), (2, .int v2), (3, .int v3), (4, .int v4), (5, .int v5), (6, .int 0)]) rfl ?_
    exact k1 c0
theorem sX11_ask_41 {v1 : Int32} {v2 : Int32} {v3 : Int32} {v4 : Int32} {v5 : Int32} {v6 : Int32} 
    (h0 : pg_isX11 Λ)
    (k0 : (10 ≤ v6) → pg_At S Λ YX11_ask (d + 1) 68 [(0, .ref 207), (1, .int v1), (2, .int v2), (3, .int v3), (4, .int v4), (5, .int v5), (6, .int 0), (7, .int 0)] [] M P)
    (b0 : (¬ 10 ≤ v6) → vp_in v6 10)
    (k1 : (¬ 10 ≤ v6) → pg_At S Λ YX11_ask (d + 1) 41 [(0, .ref 207), (1, .int v1), (2, .int v2), (3, .int v3), (4, .int v4), (5, .int v5), (6, .int (v6 + 1))] [] (pg_si M 230 v6.toNatClampNeg 0) P) :
    pg_At S Λ YX11_ask (d + 1) 41 [(0, .ref 207), (1, .int v1), (2, .int v2), (3, .int v3), (4, .int v4), (5, .int v5), (6, .int v6)] [] M P := by
  refine pg_iload (pc := 41) (i := 6) (j := 6) (x := v6) dX11_ask_41 rfl ?_
  refine pg_bipush (pc := 43) (v := 10) dX11_ask_43 (by decide) ?_
  refine pg_icmp_ge (pc := 45) (tgt := 62) dX11_ask_45 (by decide) (fun c0 => ?_) (fun c0 => ?_)
  · skip
    refine pg_iconst (pc := 62) (v := 0) dX11_ask_62 (by decide) ?_
    refine pg_istore (pc := 63) (i := 6) (ls' := [(6, .int 0), (0, .ref 207), (1, .int v1), (2, .int v2), (3, .int v3), (4, .int v4), (5, .int v5)]) dX11_ask_63 (by decide) rfl ?_
    refine pg_iconst (pc := 65) (v := 0) dX11_ask_65 (by decide) ?_
    refine pg_istore (pc := 66) (i := 7) (ls' := [(7, .int 0), (6, .int 0), (0, .ref 207), (1, .int v1), (2, .int v2), (3, .int v3), (4, .int v4), (5, .int v5)]) dX11_ask_66 (by decide) rfl ?_
    refine pg_drop (ks := [2, 3, 4, 5, 6, 7, 1, 0]) (ls' := [(0, .ref 207), (1, .int v1), (2, .int v2), (3, .int v3), (4, .int v4), (5, .int v5), (6, .int 0), (7, .int 0)]) rfl ?_
    exact k0 c0
  · skip
    refine pg_aload_n (pc := 48) (i := 0) (j := 0) (x := 207) dX11_ask_48 rfl rfl ?_
    refine gfX11_141 (pc := 49) rfl h0 dX11_ask_49 ?_
    refine pg_iload (pc := 52) (i := 6) (j := 6) (x := v6) dX11_ask_52 rfl ?_
    refine pg_iconst (pc := 54) (v := 0) dX11_ask_54 (by decide) ?_
    refine pg_iast (pc := 55) h0.2.2.2.2.2.2.2.2.2.2.2.2.2.2.2.2.2.2.2.2.2.2.2 (b0 c0) dX11_ask_55 ?_
    refine pg_iinc (pc := 56) (i := 6) (j := 6) (x := v6) (v := v6 + 1) (ls' := [(6, .int (v6 + 1)), (0, .ref 207), (1, .int v1), (2, .int v2), (3, .int v3), (4, .int v4), (5, .int v5)]) dX11_ask_56 rfl rfl (by decide) rfl ?_
    refine pg_goto (pc := 59) (tgt := 41) dX11_ask_59 (by decide) ?_
    refine pg_drop (ks := [1, 2, 3, 4, 5, 6, 0]) (ls' := [(0, .ref 207), (1, .int v1), (2, .int v2), (3, .int v3), (4, .int v4), (5, .int v5), (6, .int (v6 + 1))]) rfl ?_
    exact k1 c0
theorem sX11_ask_68 {v1 : Int32} {v2 : Int32} {v3 : Int32} {v4 : Int32} {v5 : Int32} {v6 : Int32} {v7 : Int32} {Q0 : Int32 → pg_M → Prop}
    (h0 : pg_isX11 Λ)
    (k0 : ((M.1 213 (2 : Int32).toNatClampNeg) ≤ v7) → (v4 ≤ v6) → (v4 ≤ v6) → pg_At S Λ YX11_ask (d + 1) 31 [(0, .ref 207), (1, .int v1), (2, .int v2), (3, .int v3), (4, .int v4), (5, .int (v5 + 1))] [] M P)
    (k1 : ((M.1 213 (2 : Int32).toNatClampNeg) ≤ v7) → (v4 ≤ v6) → (¬ v4 ≤ v6) → pg_At S Λ YX11_ask (d + 1) 31 [(0, .ref 207), (1, .int v1), (2, .int v2), (3, .int v3), (4, .int v6), (5, .int (v5 + 1))] [] M P)
    (k2 : ((M.1 213 (2 : Int32).toNatClampNeg) ≤ v7) → (¬ v4 ≤ v6) → (v4 ≤ v6) → pg_At S Λ YX11_ask (d + 1) 31 [(0, .ref 207), (1, .int v1), (2, .int v2), (3, .int v5), (4, .int v4), (5, .int (v5 + 1))] [] M P)
    (k3 : ((M.1 213 (2 : Int32).toNatClampNeg) ≤ v7) → (¬ v4 ≤ v6) → (¬ v4 ≤ v6) → pg_At S Λ YX11_ask (d + 1) 31 [(0, .ref 207), (1, .int v1), (2, .int v2), (3, .int v5), (4, .int v6), (5, .int (v5 + 1))] [] M P)
    (e0 : (¬ (M.1 213 (2 : Int32).toNatClampNeg) ≤ v7) → pg_Ev S Λ YX11_wetBehind d [.ref 207, .int v1, .int v7, .int v5] M (fun r M' => ∃ x, r = some (.int x) ∧ Q0 x M'))
    (b0 : (¬ (M.1 213 (2 : Int32).toNatClampNeg) ≤ v7) → ∀ x1 M1, Q0 x1 M1 → vp_in x1 10)
    (k4 : (¬ (M.1 213 (2 : Int32).toNatClampNeg) ≤ v7) → ∀ x1 M1, Q0 x1 M1 → (((pg_si M1 230 x1.toNatClampNeg ((M1.1 230 x1.toNatClampNeg) + ((v2 >>> (v7 &&& 31)) &&& 1))).1 230 x1.toNatClampNeg) ≤ v6) → pg_At S Λ YX11_ask (d + 1) 68 [(0, .ref 207), (1, .int v1), (2, .int v2), (3, .int v3), (4, .int v4), (5, .int v5), (6, .int v6), (7, .int (v7 + 1))] [] (pg_si M1 230 x1.toNatClampNeg ((M1.1 230 x1.toNatClampNeg) + ((v2 >>> (v7 &&& 31)) &&& 1))) P)
    (k5 : (¬ (M.1 213 (2 : Int32).toNatClampNeg) ≤ v7) → ∀ x1 M1, Q0 x1 M1 → (¬ ((pg_si M1 230 x1.toNatClampNeg ((M1.1 230 x1.toNatClampNeg) + ((v2 >>> (v7 &&& 31)) &&& 1))).1 230 x1.toNatClampNeg) ≤ v6) → pg_At S Λ YX11_ask (d + 1) 68 [(0, .ref 207), (1, .int v1), (2, .int v2), (3, .int v3), (4, .int v4), (5, .int v5), (6, .int ((pg_si M1 230 x1.toNatClampNeg ((M1.1 230 x1.toNatClampNeg) + ((v2 >>> (v7 &&& 31)) &&& 1))).1 230 x1.toNatClampNeg)), (7, .int (v7 + 1))] [] (pg_si M1 230 x1.toNatClampNeg ((M1.1 230 x1.toNatClampNeg) + ((v2 >>> (v7 &&& 31)) &&& 1))) P) :
    pg_At S Λ YX11_ask (d + 1) 68 [(0, .ref 207), (1, .int v1), (2, .int v2), (3, .int v3), (4, .int v4), (5, .int v5), (6, .int v6), (7, .int v7)] [] M P := by
  refine pg_iload (pc := 68) (i := 7) (j := 7) (x := v7) dX11_ask_68 rfl ?_
  refine pg_aload_n (pc := 70) (i := 0) (j := 0) (x := 207) dX11_ask_70 rfl rfl ?_
  refine gfX11_89 (pc := 71) rfl h0 dX11_ask_71 ?_
  refine pg_iconst (pc := 74) (v := 2) dX11_ask_74 (by decide) ?_
  refine pg_iald (pc := 75) h0.2.2.2.2.2.2.1 (by unfold vp_in; decide) dX11_ask_75 ?_
  refine pg_icmp_ge (pc := 76) (tgt := 138) dX11_ask_76 (by decide) (fun c0 => ?_) (fun c0 => ?_)
  · skip
    refine pg_iload (pc := 138) (i := 6) (j := 6) (x := v6) dX11_ask_138 rfl ?_
    refine pg_iload (pc := 140) (i := 4) (j := 4) (x := v4) dX11_ask_140 rfl ?_
    refine pg_icmp_ge (pc := 142) (tgt := 150) dX11_ask_142 (by decide) (fun c1 => ?_) (fun c1 => ?_)
    · skip
      refine pg_iload_n (pc := 150) (i := 3) (j := 3) (x := v3) dX11_ask_150 rfl rfl ?_
      refine pg_istore_n (pc := 151) (i := 3) (ls' := [(3, .int v3), (0, .ref 207), (1, .int v1), (2, .int v2), (4, .int v4), (5, .int v5), (6, .int v6), (7, .int v7)]) dX11_ask_151 rfl (by decide) rfl ?_
      refine pg_iload (pc := 152) (i := 6) (j := 6) (x := v6) dX11_ask_152 rfl ?_
      refine pg_iload (pc := 154) (i := 4) (j := 4) (x := v4) dX11_ask_154 rfl ?_
      refine pg_icmp_ge (pc := 156) (tgt := 164) dX11_ask_156 (by decide) (fun c2 => ?_) (fun c2 => ?_)
      · skip
        refine pg_iload (pc := 164) (i := 4) (j := 4) (x := v4) dX11_ask_164 rfl ?_
        refine pg_istore (pc := 166) (i := 4) (ls' := [(4, .int v4), (3, .int v3), (0, .ref 207), (1, .int v1), (2, .int v2), (5, .int v5), (6, .int v6), (7, .int v7)]) dX11_ask_166 (by decide) rfl ?_
        refine pg_iinc (pc := 168) (i := 5) (j := 5) (x := v5) (v := v5 + 1) (ls' := [(5, .int (v5 + 1)), (4, .int v4), (3, .int v3), (0, .ref 207), (1, .int v1), (2, .int v2), (6, .int v6), (7, .int v7)]) dX11_ask_168 rfl rfl (by decide) rfl ?_
        refine pg_goto (pc := 171) (tgt := 31) dX11_ask_171 (by decide) ?_
        refine pg_drop (ks := [3, 4, 5, 2, 1, 0]) (ls' := [(0, .ref 207), (1, .int v1), (2, .int v2), (3, .int v3), (4, .int v4), (5, .int (v5 + 1))]) rfl ?_
        exact k0 c0 c1 c2
      · skip
        refine pg_iload (pc := 159) (i := 6) (j := 6) (x := v6) dX11_ask_159 rfl ?_
        refine pg_goto (pc := 161) (tgt := 166) dX11_ask_161 (by decide) ?_
        refine pg_istore (pc := 166) (i := 4) (ls' := [(4, .int v6), (3, .int v3), (0, .ref 207), (1, .int v1), (2, .int v2), (5, .int v5), (6, .int v6), (7, .int v7)]) dX11_ask_166 (by decide) rfl ?_
        refine pg_iinc (pc := 168) (i := 5) (j := 5) (x := v5) (v := v5 + 1) (ls' := [(5, .int (v5 + 1)), (4, .int v6), (3, .int v3), (0, .ref 207), (1, .int v1), (2, .int v2), (6, .int v6), (7, .int v7)]) dX11_ask_168 rfl rfl (by decide) rfl ?_
        refine pg_goto (pc := 171) (tgt := 31) dX11_ask_171 (by decide) ?_
        refine pg_drop (ks := [3, 4, 5, 2, 1, 0]) (ls' := [(0, .ref 207), (1, .int v1), (2, .int v2), (3, .int v3), (4, .int v6), (5, .int (v5 + 1))]) rfl ?_
        exact k1 c0 c1 c2
    · skip
      refine pg_iload (pc := 145) (i := 5) (j := 5) (x := v5) dX11_ask_145 rfl ?_
      refine pg_goto (pc := 147) (tgt := 151) dX11_ask_147 (by decide) ?_
      refine pg_istore_n (pc := 151) (i := 3) (ls' := [(3, .int v5), (0, .ref 207), (1, .int v1), (2, .int v2), (4, .int v4), (5, .int v5), (6, .int v6), (7, .int v7)]) dX11_ask_151 rfl (by decide) rfl ?_
      refine pg_iload (pc := 152) (i := 6) (j := 6) (x := v6) dX11_ask_152 rfl ?_
      refine pg_iload (pc := 154) (i := 4) (j := 4) (x := v4) dX11_ask_154 rfl ?_
      refine pg_icmp_ge (pc := 156) (tgt := 164) dX11_ask_156 (by decide) (fun c2 => ?_) (fun c2 => ?_)
      · skip
        refine pg_iload (pc := 164) (i := 4) (j := 4) (x := v4) dX11_ask_164 rfl ?_
        refine pg_istore (pc := 166) (i := 4) (ls' := [(4, .int v4), (3, .int v5), (0, .ref 207), (1, .int v1), (2, .int v2), (5, .int v5), (6, .int v6), (7, .int v7)]) dX11_ask_166 (by decide) rfl ?_
        refine pg_iinc (pc := 168) (i := 5) (j := 5) (x := v5) (v := v5 + 1) (ls' := [(5, .int (v5 + 1)), (4, .int v4), (3, .int v5), (0, .ref 207), (1, .int v1), (2, .int v2), (6, .int v6), (7, .int v7)]) dX11_ask_168 rfl rfl (by decide) rfl ?_
        refine pg_goto (pc := 171) (tgt := 31) dX11_ask_171 (by decide) ?_
        refine pg_drop (ks := [3, 4, 5, 2, 1, 0]) (ls' := [(0, .ref 207), (1, .int v1), (2, .int v2), (3, .int v5), (4, .int v4), (5, .int (v5 + 1))]) rfl ?_
        exact k2 c0 c1 c2
      · skip
        refine pg_iload (pc := 159) (i := 6) (j := 6) (x := v6) dX11_ask_159 rfl ?_
        refine pg_goto (pc := 161) (tgt := 166) dX11_ask_161 (by decide) ?_
        refine pg_istore (pc := 166) (i := 4) (ls' := [(4, .int v6), (3, .int v5), (0, .ref 207), (1, .int v1), (2, .int v2), (5, .int v5), (6, .int v6), (7, .int v7)]) dX11_ask_166 (by decide) rfl ?_
        refine pg_iinc (pc := 168) (i := 5) (j := 5) (x := v5) (v := v5 + 1) (ls' := [(5, .int (v5 + 1)), (4, .int v6), (3, .int v5), (0, .ref 207), (1, .int v1), (2, .int v2), (6, .int v6), (7, .int v7)]) dX11_ask_168 rfl rfl (by decide) rfl ?_
        refine pg_goto (pc := 171) (tgt := 31) dX11_ask_171 (by decide) ?_
        refine pg_drop (ks := [3, 4, 5, 2, 1, 0]) (ls' := [(0, .ref 207), (1, .int v1), (2, .int v2), (3, .int v5), (4, .int v6), (5, .int (v5 + 1))]) rfl ?_
        exact k3 c0 c1 c2
  · skip
    refine pg_aload_n (pc := 79) (i := 0) (j := 0) (x := 207) dX11_ask_79 rfl rfl ?_
    refine pg_iload_n (pc := 80) (i := 1) (j := 1) (x := v1) dX11_ask_80 rfl rfl ?_
    refine pg_iload (pc := 81) (i := 7) (j := 7) (x := v7) dX11_ask_81 rfl ?_
    refine pg_iload (pc := 83) (i := 5) (j := 5) (x := v5) dX11_ask_83 rfl ?_
    refine pg_callV (pc := 85) (As := [.int v1, .int v7, .int v5]) (st := []) okX11_wetBehind lkX11_422 rfl h0.1 rfl (Nat.le_refl _) (Nat.le_of_ble_eq_true rfl) (e0 c0) dX11_ask_85 (fun r1 M1 w1 => ?_)
    obtain ⟨x1, rfl, w1⟩ := w1
    refine pg_istore (pc := 88) (i := 8) (ls' := [(8, .int x1), (0, .ref 207), (1, .int v1), (2, .int v2), (3, .int v3), (4, .int v4), (5, .int v5), (6, .int v6), (7, .int v7)]) dX11_ask_88 (by decide) rfl ?_
    refine pg_aload_n (pc := 90) (i := 0) (j := 1) (x := 207) dX11_ask_90 rfl rfl ?_
    refine gfX11_141 (pc := 91) rfl h0 dX11_ask_91 ?_
    refine pg_iload (pc := 94) (i := 8) (j := 0) (x := x1) dX11_ask_94 rfl ?_
    refine pg_dup2_11 (pc := 96) dX11_ask_96 rfl rfl ?_
    refine pg_iald (pc := 97) h0.2.2.2.2.2.2.2.2.2.2.2.2.2.2.2.2.2.2.2.2.2.2.2 (b0 c0 x1 M1 w1) dX11_ask_97 ?_
    refine pg_iload_n (pc := 98) (i := 2) (j := 3) (x := v2) dX11_ask_98 rfl rfl ?_
    refine pg_iload (pc := 99) (i := 7) (j := 8) (x := v7) dX11_ask_99 rfl ?_
    refine pg_ishr (pc := 101) dX11_ask_101 ?_
    refine pg_iconst (pc := 102) (v := 1) dX11_ask_102 (by decide) ?_
    refine pg_iand (pc := 103) dX11_ask_103 ?_
    refine pg_iadd (pc := 104) dX11_ask_104 ?_
    refine pg_iast (pc := 105) h0.2.2.2.2.2.2.2.2.2.2.2.2.2.2.2.2.2.2.2.2.2.2.2 (b0 c0 x1 M1 w1) dX11_ask_105 ?_
    refine pg_aload_n (pc := 106) (i := 0) (j := 1) (x := 207) dX11_ask_106 rfl rfl ?_
    refine gfX11_141 (pc := 107) rfl h0 dX11_ask_107 ?_
    refine pg_iload (pc := 110) (i := 8) (j := 0) (x := x1) dX11_ask_110 rfl ?_
    refine pg_iald (pc := 112) h0.2.2.2.2.2.2.2.2.2.2.2.2.2.2.2.2.2.2.2.2.2.2.2 (b0 c0 x1 M1 w1) dX11_ask_112 ?_
    refine pg_iload (pc := 113) (i := 6) (j := 7) (x := v6) dX11_ask_113 rfl ?_
    refine pg_icmp_le (pc := 115) (tgt := 128) dX11_ask_115 (by decide) (fun c1 => ?_) (fun c1 => ?_)
    · skip
      refine pg_iload (pc := 128) (i := 6) (j := 7) (x := v6) dX11_ask_128 rfl ?_
      refine pg_istore (pc := 130) (i := 6) (ls' := [(6, .int v6), (8, .int x1), (0, .ref 207), (1, .int v1), (2, .int v2), (3, .int v3), (4, .int v4), (5, .int v5), (7, .int v7)]) dX11_ask_130 (by decide) rfl ?_
      refine pg_iinc (pc := 132) (i := 7) (j := 8) (x := v7) (v := v7 + 1) (ls' := [(7, .int (v7 + 1)), (6, .int v6), (8, .int x1), (0, .ref 207), (1, .int v1), (2, .int v2), (3, .int v3), (4, .int v4), (5, .int v5)]) dX11_ask_132 rfl rfl (by decide) rfl ?_
      refine pg_goto (pc := 135) (tgt := 68) dX11_ask_135 (by decide) ?_
      refine pg_drop (ks := [3, 4, 5, 6, 7, 8, 1, 0]) (ls' := [(0, .ref 207), (1, .int v1), (2, .int v2), (3, .int v3), (4, .int v4), (5, .int v5), (6, .int v6), (7, .int (v7 + 1))]) rfl ?_
      exact k4 c0 x1 M1 w1 c1
    · skip
      refine pg_aload_n (pc := 118) (i := 0) (j := 1) (x := 207) dX11_ask_118 rfl rfl ?_
      refine gfX11_141 (pc := 119) rfl h0 dX11_ask_119 ?_
      refine pg_iload (pc := 122) (i := 8) (j := 0) (x := x1) dX11_ask_122 rfl ?_
      refine pg_iald (pc := 124) h0.2.2.2.2.2.2.2.2.2.2.2.2.2.2.2.2.2.2.2.2.2.2.2 (b0 c0 x1 M1 w1) dX11_ask_124 ?_
      refine pg_goto (pc := 125) (tgt := 130) dX11_ask_125 (by decide) ?_
      refine pg_istore (pc := 130) (i := 6) (ls' := [(6, .int ((pg_si M1 230 x1.toNatClampNeg ((M1.1 230 x1.toNatClampNeg) + ((v2 >>> (v7 &&& 31)) &&& 1))).1 230 x1.toNatClampNeg)), (8, .int x1), (0, .ref 207), (1, .int v1), (2, .int v2), (3, .int v3), (4, .int v4), (5, .int v5), (7, .int v7)]) dX11_ask_130 (by decide) rfl ?_
      refine pg_iinc (pc := 132) (i := 7) (j := 8) (x := v7) (v := v7 + 1) (ls' := [(7, .int (v7 + 1)), (6, .int ((pg_si M1 230 x1.toNatClampNeg ((M1.1 230 x1.toNatClampNeg) + ((v2 >>> (v7 &&& 31)) &&& 1))).1 230 x1.toNatClampNeg)), (8, .int x1), (0, .ref 207), (1, .int v1), (2, .int v2), (3, .int v3), (4, .int v4), (5, .int v5)]) dX11_ask_132 rfl rfl (by decide) rfl ?_
      refine pg_goto (pc := 135) (tgt := 68) dX11_ask_135 (by decide) ?_
      refine pg_drop (ks := [3, 4, 5, 6, 7, 8, 1, 0]) (ls' := [(0, .ref 207), (1, .int v1), (2, .int v2), (3, .int v3), (4, .int v4), (5, .int v5), (6, .int ((pg_si M1 230 x1.toNatClampNeg ((M1.1 230 x1.toNatClampNeg) + ((v2 >>> (v7 &&& 31)) &&& 1))).1 230 x1.toNatClampNeg)), (7, .int (v7 + 1))]) rfl ?_
      exact k5 c0 x1 M1 w1 c1
theorem oX11_ask {d : Nat} {v1 : Int32} (h : pg_At S Λ YX11_ask d 0 [(0, .ref 207), (1, .int v1)] [] M P) : pg_Ev S Λ YX11_ask d [.ref 207, .int v1] M P := pg_Ev.of (by decide) (by first | decide | exact Nat.le_of_ble_eq_true rfl) h
theorem sX11_worthBehind_0 {v1 : Int32} {v2 : Int32} {Q0 : pg_M → Prop}
    (h0 : pg_isX11 Λ)
    (e0 : pg_Ev S Λ YX11_copies d [.ref 207, .int 0, .int 1134, .int 28] M (fun r M' => r = none ∧ Q0 M'))
    (k0 : ∀ M1, Q0 M1 → (v1 < 0) → pg_At S Λ YX11_worthBehind (d + 1) 28 [(0, .ref 207), (2, .int v2), (3, .int 0)] [] M1 P)
    (b0 : ∀ M1, Q0 M1 → (¬ v1 < 0) → vp_in (1154 + v1) 1242)
    (k1 : ∀ M1, Q0 M1 → (¬ v1 < 0) → pg_At S Λ YX11_worthBehind (d + 1) 28 [(0, .ref 207), (2, .int v2), (3, .int 0)] [] (pg_si M1 221 (1154 + v1).toNatClampNeg 9) P) :
    pg_At S Λ YX11_worthBehind (d + 1) 0 [(0, .ref 207), (1, .int v1), (2, .int v2)] [] M P := by
  refine pg_aload_n (pc := 0) (i := 0) (j := 0) (x := 207) dX11_worthBehind_0 rfl rfl ?_
  refine pg_iconst (pc := 1) (v := 0) dX11_worthBehind_1 (by decide) ?_
  refine pg_sipush (pc := 2) (v := 1134) dX11_worthBehind_2 (by decide) ?_
  refine pg_bipush (pc := 5) (v := 28) dX11_worthBehind_5 (by decide) ?_
  refine pg_callV (pc := 7) (As := [.int 0, .int 1134, .int 28]) (st := []) okX11_copies lkX11_288 rfl h0.1 rfl (Nat.le_refl _) (Nat.le_of_ble_eq_true rfl) e0 dX11_worthBehind_7 (fun r1 M1 w1 => ?_)
  obtain ⟨rfl, w1⟩ := w1
  refine pg_iload_n (pc := 10) (i := 1) (j := 1) (x := v1) dX11_worthBehind_10 rfl rfl ?_
  refine pg_if_lt (pc := 11) (tgt := 26) dX11_worthBehind_11 (by decide) (fun c0 => ?_) (fun c0 => ?_)
  · skip
    refine pg_iconst (pc := 26) (v := 0) dX11_worthBehind_26 (by decide) ?_
    refine pg_istore_n (pc := 27) (i := 3) (ls' := [(3, .int 0), (0, .ref 207), (1, .int v1), (2, .int v2)]) dX11_worthBehind_27 rfl (by decide) rfl ?_
    refine pg_drop (ks := [1, 3, 0]) (ls' := [(0, .ref 207), (2, .int v2), (3, .int 0)]) rfl ?_
    exact k0 M1 w1 c0
  · skip
    refine pg_aload_n (pc := 14) (i := 0) (j := 0) (x := 207) dX11_worthBehind_14 rfl rfl ?_
    refine gfX11_113 (pc := 15) rfl h0 dX11_worthBehind_15 ?_
    refine pg_sipush (pc := 18) (v := 1154) dX11_worthBehind_18 (by decide) ?_
    refine pg_iload_n (pc := 21) (i := 1) (j := 1) (x := v1) dX11_worthBehind_21 rfl rfl ?_
    refine pg_iadd (pc := 22) dX11_worthBehind_22 ?_
    refine pg_bipush (pc := 23) (v := 9) dX11_worthBehind_23 (by decide) ?_
    refine pg_iast (pc := 25) h0.2.2.2.2.2.2.2.2.2.2.2.2.2.2.1 (b0 M1 w1 c0) dX11_worthBehind_25 ?_
    refine pg_iconst (pc := 26) (v := 0) dX11_worthBehind_26 (by decide) ?_
    refine pg_istore_n (pc := 27) (i := 3) (ls' := [(3, .int 0), (0, .ref 207), (1, .int v1), (2, .int v2)]) dX11_worthBehind_27 rfl (by decide) rfl ?_
    refine pg_drop (ks := [1, 3, 0]) (ls' := [(0, .ref 207), (2, .int v2), (3, .int 0)]) rfl ?_
    exact k1 M1 w1 c0
theorem sX11_worthBehind_28 {v2 : Int32} {v3 : Int32} {Q0 : Int32 → pg_M → Prop} {Q1 : Int32 → pg_M → Prop} {Q2 : Int32 → pg_M → Prop}
    (h0 : pg_isX11 Λ)
    (e0 : (v2 ≤ v3) → pg_Ev S Λ YX11_lawsOf d [.ref 207, .int 1134] M (fun r M' => ∃ x, r = some (.int x) ∧ Q0 x M'))
    (e1 : (v2 ≤ v3) → ∀ x1 M1, Q0 x1 M1 → pg_Ev S Λ YX11_worthOf d [.ref 207, .int x1] M1 (fun r M' => ∃ x, r = some (.int x) ∧ Q1 x M'))
    (k0 : (v2 ≤ v3) → ∀ x1 M1, Q0 x1 M1 → ∀ x2 M2, Q1 x2 M2 → P (some (.int x2)) M2)
    (e2 : (¬ v2 ≤ v3) → pg_Ev S Λ YX11_passes d [.ref 207, .int 1134, .int 0] M (fun r M' => ∃ x, r = some (.int x) ∧ Q2 x M'))
    (k1 : (¬ v2 ≤ v3) → ∀ x3 M3, Q2 x3 M3 → pg_At S Λ YX11_worthBehind (d + 1) 28 [(0, .ref 207), (2, .int v2), (3, .int (v3 + 1))] [] M3 P) :
    pg_At S Λ YX11_worthBehind (d + 1) 28 [(0, .ref 207), (2, .int v2), (3, .int v3)] [] M P := by
  refine pg_iload_n (pc := 28) (i := 3) (j := 2) (x := v3) dX11_worthBehind_28 rfl rfl ?_
  refine pg_iload_n (pc := 29) (i := 2) (j := 1) (x := v2) dX11_worthBehind_29 rfl rfl ?_
  refine pg_icmp_ge (pc := 30) (tgt := 48) dX11_worthBehind_30 (by decide) (fun c0 => ?_) (fun c0 => ?_)
  · skip
    refine pg_aload_n (pc := 48) (i := 0) (j := 0) (x := 207) dX11_worthBehind_48 rfl rfl ?_
    refine pg_aload_n (pc := 49) (i := 0) (j := 0) (x := 207) dX11_worthBehind_49 rfl rfl ?_
    refine pg_sipush (pc := 50) (v := 1134) dX11_worthBehind_50 (by decide) ?_
    refine pg_callV (pc := 53) (As := [.int 1134]) (st := [.ref 207]) okX11_lawsOf lkX11_358 rfl h0.1 rfl (Nat.le_refl _) (Nat.le_of_ble_eq_true rfl) (e0 c0) dX11_worthBehind_53 (fun r1 M1 w1 => ?_)
    obtain ⟨x1, rfl, w1⟩ := w1
    refine pg_callV (pc := 56) (As := [.int x1]) (st := []) okX11_worthOf lkX11_385 rfl h0.1 rfl (Nat.le_refl _) (Nat.le_of_ble_eq_true rfl) (e1 c0 x1 M1 w1) dX11_worthBehind_56 (fun r2 M2 w2 => ?_)
    obtain ⟨x2, rfl, w2⟩ := w2
    exact pg_iret (pc := 59) rfl dX11_worthBehind_59 (k0 c0 x1 M1 w1 x2 M2 w2)
  · skip
    refine pg_aload_n (pc := 33) (i := 0) (j := 0) (x := 207) dX11_worthBehind_33 rfl rfl ?_
    refine pg_sipush (pc := 34) (v := 1134) dX11_worthBehind_34 (by decide) ?_
    refine pg_iconst (pc := 37) (v := 0) dX11_worthBehind_37 (by decide) ?_
    refine pg_callV (pc := 38) (As := [.int 1134, .int 0]) (st := []) okX11_passes lkX11_379 rfl h0.1 rfl (Nat.le_refl _) (Nat.le_of_ble_eq_true rfl) (e2 c0) dX11_worthBehind_38 (fun r3 M3 w3 => ?_)
    obtain ⟨x3, rfl, w3⟩ := w3
    refine pg_pop (pc := 41) dX11_worthBehind_41 rfl ?_
    refine pg_iinc (pc := 42) (i := 3) (j := 2) (x := v3) (v := v3 + 1) (ls' := [(3, .int (v3 + 1)), (0, .ref 207), (2, .int v2)]) dX11_worthBehind_42 rfl rfl (by decide) rfl ?_
    refine pg_goto (pc := 45) (tgt := 28) dX11_worthBehind_45 (by decide) ?_
    refine pg_drop (ks := [1, 2, 0]) (ls' := [(0, .ref 207), (2, .int v2), (3, .int (v3 + 1))]) rfl ?_
    exact k1 c0 x3 M3 w3
theorem oX11_worthBehind {d : Nat} {v1 : Int32} {v2 : Int32} (h : pg_At S Λ YX11_worthBehind d 0 [(0, .ref 207), (1, .int v1), (2, .int v2)] [] M P) : pg_Ev S Λ YX11_worthBehind d [.ref 207, .int v1, .int v2] M P := pg_Ev.of (by decide) (by first | decide | exact Nat.le_of_ble_eq_true rfl) h
theorem sX11_change_0 {v1 : Int32} {Q0 : Int32 → pg_M → Prop} {Q1 : Int32 → pg_M → Prop}
    (h0 : pg_isX11 Λ)
    (e0 : pg_Ev S Λ YX11_within d [.int v1, .int 1, .int 20] (pg_si M 207 0 0) (fun r M' => ∃ x, r = some (.int x) ∧ Q0 x M'))
    (e1 : ∀ x1 M1, Q0 x1 M1 → (¬ x1 = 0) → pg_Ev S Λ YX11_worthBehind d [.ref 207, .int (-1), .int v1] M1 (fun r M' => ∃ x, r = some (.int x) ∧ Q1 x M'))
    (k0 : ∀ x1 M1, Q0 x1 M1 → (¬ x1 = 0) → ∀ x2 M2, Q1 x2 M2 → pg_At S Λ YX11_change (d + 1) 29 [(0, .ref 207), (1, .int v1), (2, .int (-1)), (3, .int x2), (4, .int 0)] [] M2 P)
    (k1 : ∀ x1 M1, Q0 x1 M1 → (x1 = 0) → P (some (.int (-1))) M1) :
    pg_At S Λ YX11_change (d + 1) 0 [(0, .ref 207), (1, .int v1)] [] M P := by
  refine pg_aload_n (pc := 0) (i := 0) (j := 0) (x := 207) dX11_change_0 rfl rfl ?_
  refine pg_iconst (pc := 1) (v := 0) dX11_change_1 (by decide) ?_
  refine pfX11_1 (pc := 2) rfl h0 dX11_change_2 ?_
  refine pg_iload_n (pc := 5) (i := 1) (j := 1) (x := v1) dX11_change_5 rfl rfl ?_
  refine pg_iconst (pc := 6) (v := 1) dX11_change_6 (by decide) ?_
  refine pg_bipush (pc := 7) (v := 20) dX11_change_7 (by decide) ?_
  refine pg_callS (pc := 9) (As := [.int v1, .int 1, .int 20]) (st := []) okX11_within lkX11_349 rfl (Nat.le_refl _) (Nat.le_of_ble_eq_true rfl) e0 dX11_change_9 (fun r1 M1 w1 => ?_)
  obtain ⟨x1, rfl, w1⟩ := w1
  refine pg_if_ne (pc := 12) (tgt := 17) dX11_change_12 (by decide) (fun c0 => ?_) (fun c0 => ?_)
  · skip
    refine pg_iconst (pc := 17) (v := (-1)) dX11_change_17 (by decide) ?_
    refine pg_istore_n (pc := 18) (i := 2) (ls' := [(2, .int (-1)), (0, .ref 207), (1, .int v1)]) dX11_change_18 rfl (by decide) rfl ?_
    refine pg_aload_n (pc := 19) (i := 0) (j := 1) (x := 207) dX11_change_19 rfl rfl ?_
    refine pg_iconst (pc := 20) (v := (-1)) dX11_change_20 (by decide) ?_
    refine pg_iload_n (pc := 21) (i := 1) (j := 2) (x := v1) dX11_change_21 rfl rfl ?_
    refine pg_callV (pc := 22) (As := [.int (-1), .int v1]) (st := []) okX11_worthBehind lkX11_428 rfl h0.1 rfl (Nat.le_refl _) (Nat.le_of_ble_eq_true rfl) (e1 x1 M1 w1 c0) dX11_change_22 (fun r2 M2 w2 => ?_)
    obtain ⟨x2, rfl, w2⟩ := w2
    refine pg_istore_n (pc := 25) (i := 3) (ls' := [(3, .int x2), (2, .int (-1)), (0, .ref 207), (1, .int v1)]) dX11_change_25 rfl (by decide) rfl ?_
    refine pg_iconst (pc := 26) (v := 0) dX11_change_26 (by decide) ?_
    refine pg_istore (pc := 27) (i := 4) (ls' := [(4, .int 0), (3, .int x2), (2, .int (-1)), (0, .ref 207), (1, .int v1)]) dX11_change_27 (by decide) rfl ?_
    refine pg_drop (ks := [3, 4, 2, 1, 0]) (ls' := [(0, .ref 207), (1, .int v1), (2, .int (-1)), (3, .int x2), (4, .int 0)]) rfl ?_
    exact k0 x1 M1 w1 c0 x2 M2 w2
  · skip
    refine pg_iconst (pc := 15) (v := (-1)) dX11_change_15 (by decide) ?_
    exact pg_iret (pc := 16) rfl dX11_change_16 (k1 x1 M1 w1 c0)
theorem sX11_change_29 {v1 : Int32} {v2 : Int32} {v3 : Int32} {v4 : Int32} {Q0 : Int32 → pg_M → Prop}
    (h0 : pg_isX11 Λ)
    (k0 : ((M.1 221 (1 : Int32).toNatClampNeg) ≤ v4) → P (some (.int v2)) M)
    (e0 : (¬ (M.1 221 (1 : Int32).toNatClampNeg) ≤ v4) → pg_Ev S Λ YX11_worthBehind d [.ref 207, .int v4, .int v1] M (fun r M' => ∃ x, r = some (.int x) ∧ Q0 x M'))
    (k1 : (¬ (M.1 221 (1 : Int32).toNatClampNeg) ≤ v4) → ∀ x1 M1, Q0 x1 M1 → (x1 ≤ v3) → (x1 ≤ v3) → pg_At S Λ YX11_change (d + 1) 29 [(0, .ref 207), (1, .int v1), (2, .int v2), (3, .int v3), (4, .int (v4 + 1))] [] M1 P)
    (k2 : (¬ (M.1 221 (1 : Int32).toNatClampNeg) ≤ v4) → ∀ x1 M1, Q0 x1 M1 → (x1 ≤ v3) → (¬ x1 ≤ v3) → pg_At S Λ YX11_change (d + 1) 29 [(0, .ref 207), (1, .int v1), (2, .int v2), (3, .int x1), (4, .int (v4 + 1))] [] M1 P)
    (k3 : (¬ (M.1 221 (1 : Int32).toNatClampNeg) ≤ v4) → ∀ x1 M1, Q0 x1 M1 → (¬ x1 ≤ v3) → (x1 ≤ v3) → pg_At S Λ YX11_change (d + 1) 29 [(0, .ref 207), (1, .int v1), (2, .int v4), (3, .int v3), (4, .int (v4 + 1))] [] M1 P)
    (k4 : (¬ (M.1 221 (1 : Int32).toNatClampNeg) ≤ v4) → ∀ x1 M1, Q0 x1 M1 → (¬ x1 ≤ v3) → (¬ x1 ≤ v3) → pg_At S Λ YX11_change (d + 1) 29 [(0, .ref 207), (1, .int v1), (2, .int v4), (3, .int x1), (4, .int (v4 + 1))] [] M1 P) :
    pg_At S Λ YX11_change (d + 1) 29 [(0, .ref 207), (1, .int v1), (2, .int v2), (3, .int v3), (4, .int v4)] [] M P := by
  refine pg_iload (pc := 29) (i := 4) (j := 4) (x := v4) dX11_change_29 rfl ?_
  refine pg_aload_n (pc := 31) (i := 0) (j := 0) (x := 207) dX11_change_31 rfl rfl ?_
  refine gfX11_113 (pc := 32) rfl h0 dX11_change_32 ?_
  refine pg_iconst (pc := 35) (v := 1) dX11_change_35 (by decide) ?_
  refine pg_iald (pc := 36) h0.2.2.2.2.2.2.2.2.2.2.2.2.2.2.1 (by unfold vp_in; decide) dX11_change_36 ?_
  refine pg_icmp_ge (pc := 37) (tgt := 81) dX11_change_37 (by decide) (fun c0 => ?_) (fun c0 => ?_)
  · skip
    refine pg_iload_n (pc := 81) (i := 2) (j := 2) (x := v2) dX11_change_81 rfl rfl ?_
    exact pg_iret (pc := 82) rfl dX11_change_82 (k0 c0)
  · skip
    refine pg_aload_n (pc := 40) (i := 0) (j := 0) (x := 207) dX11_change_40 rfl rfl ?_
    refine pg_iload (pc := 41) (i := 4) (j := 4) (x := v4) dX11_change_41 rfl ?_
    refine pg_iload_n (pc := 43) (i := 1) (j := 1) (x := v1) dX11_change_43 rfl rfl ?_
    refine pg_callV (pc := 44) (As := [.int v4, .int v1]) (st := []) okX11_worthBehind lkX11_428 rfl h0.1 rfl (Nat.le_refl _) (Nat.le_of_ble_eq_true rfl) (e0 c0) dX11_change_44 (fun r1 M1 w1 => ?_)
    obtain ⟨x1, rfl, w1⟩ := w1
    refine pg_istore (pc := 47) (i := 5) (ls' := [(5, .int x1), (0, .ref 207), (1, .int v1), (2, .int v2), (3, .int v3), (4, .int v4)]) dX11_change_47 (by decide) rfl ?_
    refine pg_iload (pc := 49) (i := 5) (j := 0) (x := x1) dX11_change_49 rfl ?_
    refine pg_iload_n (pc := 51) (i := 3) (j := 4) (x := v3) dX11_change_51 rfl rfl ?_
    refine pg_icmp_le (pc := 52) (tgt := 60) dX11_change_52 (by decide) (fun c1 => ?_) (fun c1 => ?_)
    · skip
      refine pg_iload_n (pc := 60) (i := 2) (j := 3) (x := v2) dX11_change_60 rfl rfl ?_
      refine pg_istore_n (pc := 61) (i := 2) (ls' := [(2, .int v2), (5, .int x1), (0, .ref 207), (1, .int v1), (3, .int v3), (4, .int v4)]) dX11_change_61 rfl (by decide) rfl ?_
      refine pg_iload (pc := 62) (i := 5) (j := 1) (x := x1) dX11_change_62 rfl ?_
      refine pg_iload_n (pc := 64) (i := 3) (j := 4) (x := v3) dX11_change_64 rfl rfl ?_
      refine pg_icmp_le (pc := 65) (tgt := 73) dX11_change_65 (by decide) (fun c2 => ?_) (fun c2 => ?_)
      · skip
        refine pg_iload_n (pc := 73) (i := 3) (j := 4) (x := v3) dX11_change_73 rfl rfl ?_
        refine pg_istore_n (pc := 74) (i := 3) (ls' := [(3, .int v3), (2, .int v2), (5, .int x1), (0, .ref 207), (1, .int v1), (4, .int v4)]) dX11_change_74 rfl (by decide) rfl ?_
        refine pg_iinc (pc := 75) (i := 4) (j := 5) (x := v4) (v := v4 + 1) (ls' := [(4, .int (v4 + 1)), (3, .int v3), (2, .int v2), (5, .int x1), (0, .ref 207), (1, .int v1)]) dX11_change_75 rfl rfl (by decide) rfl ?_
        refine pg_goto (pc := 78) (tgt := 29) dX11_change_78 (by decide) ?_
        refine pg_drop (ks := [4, 5, 2, 1, 0]) (ls' := [(0, .ref 207), (1, .int v1), (2, .int v2), (3, .int v3), (4, .int (v4 + 1))]) rfl ?_
        exact k1 c0 x1 M1 w1 c1 c2
      · skip
        refine pg_iload (pc := 68) (i := 5) (j := 1) (x := x1) dX11_change_68 rfl ?_
        refine pg_goto (pc := 70) (tgt := 74) dX11_change_70 (by decide) ?_
        refine pg_istore_n (pc := 74) (i := 3) (ls' := [(3, .int x1), (2, .int v2), (5, .int x1), (0, .ref 207), (1, .int v1), (4, .int v4)]) dX11_change_74 rfl (by decide) rfl ?_
        refine pg_iinc (pc := 75) (i := 4) (j := 5) (x := v4) (v := v4 + 1) (ls' := [(4, .int (v4 + 1)), (3, .int x1), (2, .int v2), (5, .int x1), (0, .ref 207), (1, .int v1)]) dX11_change_75 rfl rfl (by decide) rfl ?_
        refine pg_goto (pc := 78) (tgt := 29) dX11_change_78 (by decide) ?_
        refine pg_drop (ks := [4, 5, 2, 1, 0]) (ls' := [(0, .ref 207), (1, .int v1), (2, .int v2), (3, .int x1), (4, .int (v4 + 1))]) rfl ?_
        exact k2 c0 x1 M1 w1 c1 c2
    · skip
      refine pg_iload (pc := 55) (i := 4) (j := 5) (x := v4) dX11_change_55 rfl ?_
      refine pg_goto (pc := 57) (tgt := 61) dX11_change_57 (by decide) ?_
      refine pg_istore_n (pc := 61) (i := 2) (ls' := [(2, .int v4), (5, .int x1), (0, .ref 207), (1, .int v1), (3, .int v3), (4, .int v4)]) dX11_change_61 rfl (by decide) rfl ?_
      refine pg_iload (pc := 62) (i := 5) (j := 1) (x := x1) dX11_change_62 rfl ?_
      refine pg_iload_n (pc := 64) (i := 3) (j := 4) (x := v3) dX11_change_64 rfl rfl ?_
      refine pg_icmp_le (pc := 65) (tgt := 73) dX11_change_65 (by decide) (fun c2 => ?_) (fun c2 => ?_)
      · skip
        refine pg_iload_n (pc := 73) (i := 3) (j := 4) (x := v3) dX11_change_73 rfl rfl ?_
        refine pg_istore_n (pc := 74) (i := 3) (ls' := [(3, .int v3), (2, .int v4), (5, .int x1), (0, .ref 207), (1, .int v1), (4, .int v4)]) dX11_change_74 rfl (by decide) rfl ?_
        refine pg_iinc (pc := 75) (i := 4) (j := 5) (x := v4) (v := v4 + 1) (ls' := [(4, .int (v4 + 1)), (3, .int v3), (2, .int v4), (5, .int x1), (0, .ref 207), (1, .int v1)]) dX11_change_75 rfl rfl (by decide) rfl ?_
        refine pg_goto (pc := 78) (tgt := 29) dX11_change_78 (by decide) ?_
        refine pg_drop (ks := [4, 5, 2, 1, 0]) (ls' := [(0, .ref 207), (1, .int v1), (2, .int v4), (3, .int v3), (4, .int (v4 + 1))]) rfl ?_
        exact k3 c0 x1 M1 w1 c1 c2
      · skip
        refine pg_iload (pc := 68) (i := 5) (j := 1) (x := x1) dX11_change_68 rfl ?_
        refine pg_goto (pc := 70) (tgt := 74) dX11_change_70 (by decide) ?_
        refine pg_istore_n (pc := 74) (i := 3) (ls' := [(3, .int x1), (2, .int v4), (5, .int x1), (0, .ref 207), (1, .int v1), (4, .int v4)]) dX11_change_74 rfl (by decide) rfl ?_
        refine pg_iinc (pc := 75) (i := 4) (j := 5) (x := v4) (v := v4 + 1) (ls' := [(4, .int (v4 + 1)), (3, .int x1), (2, .int v4), (5, .int x1), (0, .ref 207), (1, .int v1)]) dX11_change_75 rfl rfl (by decide) rfl ?_
        refine pg_goto (pc := 78) (tgt := 29) dX11_change_78 (by decide) ?_
        refine pg_drop (ks := [4, 5, 2, 1, 0]) (ls' := [(0, .ref 207), (1, .int v1), (2, .int v4), (3, .int x1), (4, .int (v4 + 1))]) rfl ?_
        exact k4 c0 x1 M1 w1 c1 c2
theorem oX11_change {d : Nat} {v1 : Int32} (h : pg_At S Λ YX11_change d 0 [(0, .ref 207), (1, .int v1)] [] M P) : pg_Ev S Λ YX11_change d [.ref 207, .int v1] M P := pg_Ev.of (by decide) (by first | decide | exact Nat.le_of_ble_eq_true rfl) h
theorem sX11_rests_0 {v1 : Int32} {v2 : Int32} {v3 : Int32} {v4 : Int32} {Q0 : Int32 → pg_M → Prop} {Q1 : Int32 → pg_M → Prop} {Q2 : Int32 → pg_M → Prop}
    (e0 : pg_Ev S Λ YX11_within d [.int v1, .int 0, .int 9] M (fun r M' => ∃ x, r = some (.int x) ∧ Q0 x M'))
    (k0 : ∀ x1 M1, Q0 x1 M1 → (x1 = 0) → pg_At S Λ YX11_rests (d + 1) 52 [(0, .ref 207), (1, .int v1), (2, .int v2), (3, .int v3), (4, .int v4), (5, .int 0), (6, .int 0), (7, .int (-1)), (8, .int 0)] [] M1 P)
    (e1 : ∀ x1 M1, Q0 x1 M1 → (¬ x1 = 0) → pg_Ev S Λ YX11_within d [.int v2, .int 0, .int 9] M1 (fun r M' => ∃ x, r = some (.int x) ∧ Q1 x M'))
    (k1 : ∀ x1 M1, Q0 x1 M1 → (¬ x1 = 0) → ∀ x2 M2, Q1 x2 M2 → (x2 = 0) → pg_At S Λ YX11_rests (d + 1) 52 [(0, .ref 207), (1, .int v1), (2, .int v2), (3, .int v3), (4, .int v4), (5, .int 0), (6, .int 0), (7, .int (-1)), (8, .int 0)] [] M2 P)
    (e2 : ∀ x1 M1, Q0 x1 M1 → (¬ x1 = 0) → ∀ x2 M2, Q1 x2 M2 → (¬ x2 = 0) → pg_Ev S Λ YX11_within d [.int v3, .int 0, .int 9] M2 (fun r M' => ∃ x, r = some (.int x) ∧ Q2 x M'))
    (k2 : ∀ x1 M1, Q0 x1 M1 → (¬ x1 = 0) → ∀ x2 M2, Q1 x2 M2 → (¬ x2 = 0) → ∀ x3 M3, Q2 x3 M3 → (x3 = 0) → pg_At S Λ YX11_rests (d + 1) 52 [(0, .ref 207), (1, .int v1), (2, .int v2), (3, .int v3), (4, .int v4), (5, .int 0), (6, .int 0), (7, .int (-1)), (8, .int 0)] [] M3 P)
    (k3 : ∀ x1 M1, Q0 x1 M1 → (¬ x1 = 0) → ∀ x2 M2, Q1 x2 M2 → (¬ x2 = 0) → ∀ x3 M3, Q2 x3 M3 → (¬ x3 = 0) → (v4 < (-1)) → pg_At S Λ YX11_rests (d + 1) 52 [(0, .ref 207), (1, .int v1), (2, .int v2), (3, .int v3), (4, .int v4), (5, .int 0), (6, .int 0), (7, .int (-1)), (8, .int 0)] [] M3 P)
    (k4 : ∀ x1 M1, Q0 x1 M1 → (¬ x1 = 0) → ∀ x2 M2, Q1 x2 M2 → (¬ x2 = 0) → ∀ x3 M3, Q2 x3 M3 → (¬ x3 = 0) → (¬ v4 < (-1)) → pg_At S Λ YX11_rests (d + 1) 52 [(0, .ref 207), (1, .int v1), (2, .int v2), (3, .int v3), (4, .int v4), (5, .int 1), (6, .int 0), (7, .int (-1)), (8, .int 0)] [] M3 P) :
    pg_At S Λ YX11_rests (d + 1) 0 [(0, .ref 207), (1, .int v1), (2, .int v2), (3, .int v3), (4, .int v4)] [] M P := by
  refine pg_iload_n (pc := 0) (i := 1) (j := 1) (x := v1) dX11_rests_0 rfl rfl ?_
  refine pg_iconst (pc := 1) (v := 0) dX11_rests_1 (by decide) ?_
  refine pg_bipush (pc := 2) (v := 9) dX11_rests_2 (by decide) ?_
  refine pg_callS (pc := 4) (As := [.int v1, .int 0, .int 9]) (st := []) okX11_within lkX11_349 rfl (Nat.le_refl _) (Nat.le_of_ble_eq_true rfl) e0 dX11_rests_4 (fun r1 M1 w1 => ?_)
  obtain ⟨x1, rfl, w1⟩ := w1
  refine pg_if_eq (pc := 7) (tgt := 40) dX11_rests_7 (by decide) (fun c0 => ?_) (fun c0 => ?_)
  · skip
    refine pg_iconst (pc := 40) (v := 0) dX11_rests_40 (by decide) ?_
    refine pg_istore (pc := 41) (i := 5) (ls' := [(5, .int 0), (0, .ref 207), (1, .int v1), (2, .int v2), (3, .int v3), (4, .int v4)]) dX11_rests_41 (by decide) rfl ?_
    refine pg_iconst (pc := 43) (v := 0) dX11_rests_43 (by decide) ?_
    refine pg_istore (pc := 44) (i := 6) (ls' := [(6, .int 0), (5, .int 0), (0, .ref 207), (1, .int v1), (2, .int v2), (3, .int v3), (4, .int v4)]) dX11_rests_44 (by decide) rfl ?_
    refine pg_iconst (pc := 46) (v := (-1)) dX11_rests_46 (by decide) ?_
    refine pg_istore (pc := 47) (i := 7) (ls' := [(7, .int (-1)), (6, .int 0), (5, .int 0), (0, .ref 207), (1, .int v1), (2, .int v2), (3, .int v3), (4, .int v4)]) dX11_rests_47 (by decide) rfl ?_
    refine pg_iconst (pc := 49) (v := 0) dX11_rests_49 (by decide) ?_
    refine pg_istore (pc := 50) (i := 8) (ls' := [(8, .int 0), (7, .int (-1)), (6, .int 0), (5, .int 0), (0, .ref 207), (1, .int v1), (2, .int v2), (3, .int v3), (4, .int v4)]) dX11_rests_50 (by decide) rfl ?_
    refine pg_drop (ks := [4, 5, 6, 7, 8, 3, 2, 1, 0]) (ls' := [(0, .ref 207), (1, .int v1), (2, .int v2), (3, .int v3), (4, .int v4), (5, .int 0), (6, .int 0), (7, .int (-1)), (8, .int 0)]) rfl ?_
    exact k0 x1 M1 w1 c0
  · skip
    refine pg_iload_n (pc := 10) (i := 2) (j := 2) (x := v2) dX11_rests_10 rfl rfl ?_
    refine pg_iconst (pc := 11) (v := 0) dX11_rests_11 (by decide) ?_
    refine pg_bipush (pc := 12) (v := 9) dX11_rests_12 (by decide) ?_
    refine pg_callS (pc := 14) (As := [.int v2, .int 0, .int 9]) (st := []) okX11_within lkX11_349 rfl (Nat.le_refl _) (Nat.le_of_ble_eq_true rfl) (e1 x1 M1 w1 c0) dX11_rests_14 (fun r2 M2 w2 => ?_)
    obtain ⟨x2, rfl, w2⟩ := w2
    refine pg_if_eq (pc := 17) (tgt := 40) dX11_rests_17 (by decide) (fun c1 => ?_) (fun c1 => ?_)
    · skip
      refine pg_iconst (pc := 40) (v := 0) dX11_rests_40 (by decide) ?_
      refine pg_istore (pc := 41) (i := 5) (ls' := [(5, .int 0), (0, .ref 207), (1, .int v1), (2, .int v2), (3, .int v3), (4, .int v4)]) dX11_rests_41 (by decide) rfl ?_
      refine pg_iconst (pc := 43) (v := 0) dX11_rests_43 (by decide) ?_
      refine pg_istore (pc := 44) (i := 6) (ls' := [(6, .int 0), (5, .int 0), (0, .ref 207), (1, .int v1), (2, .int v2), (3, .int v3), (4, .int v4)]) dX11_rests_44 (by decide) rfl ?_
      refine pg_iconst (pc := 46) (v := (-1)) dX11_rests_46 (by decide) ?_
      refine pg_istore (pc := 47) (i := 7) (ls' := [(7, .int (-1)), (6, .int 0), (5, .int 0), (0, .ref 207), (1, .int v1), (2, .int v2), (3, .int v3), (4, .int v4)]) dX11_rests_47 (by decide) rfl ?_
      refine pg_iconst (pc := 49) (v := 0) dX11_rests_49 (by decide) ?_
      refine pg_istore (pc := 50) (i := 8) (ls' := [(8, .int 0), (7, .int (-1)), (6, .int 0), (5, .int 0), (0, .ref 207), (1, .int v1), (2, .int v2), (3, .int v3), (4, .int v4)]) dX11_rests_50 (by decide) rfl ?_
      refine pg_drop (ks := [4, 5, 6, 7, 8, 3, 2, 1, 0]) (ls' := [(0, .ref 207), (1, .int v1), (2, .int v2), (3, .int v3), (4, .int v4), (5, .int 0), (6, .int 0), (7, .int (-1)), (8, .int 0)]) rfl ?_
      exact k1 x1 M1 w1 c0 x2 M2 w2 c1
    · skip
      refine pg_iload_n (pc := 20) (i := 3) (j := 3) (x := v3) dX11_rests_20 rfl rfl ?_
      refine pg_iconst (pc := 21) (v := 0) dX11_rests_21 (by decide) ?_
      refine pg_bipush (pc := 22) (v := 9) dX11_rests_22 (by decide) ?_
      refine pg_callS (pc := 24) (As := [.int v3, .int 0, .int 9]) (st := []) okX11_within lkX11_349 rfl (Nat.le_refl _) (Nat.le_of_ble_eq_true rfl) (e2 x1 M1 w1 c0 x2 M2 w2 c1) dX11_rests_24 (fun r3 M3 w3 => ?_)
      obtain ⟨x3, rfl, w3⟩ := w3
      refine pg_if_eq (pc := 27) (tgt := 40) dX11_rests_27 (by decide) (fun c2 => ?_) (fun c2 => ?_)
      · skip
        refine pg_iconst (pc := 40) (v := 0) dX11_rests_40 (by decide) ?_
        refine pg_istore (pc := 41) (i := 5) (ls' := [(5, .int 0), (0, .ref 207), (1, .int v1), (2, .int v2), (3, .int v3), (4, .int v4)]) dX11_rests_41 (by decide) rfl ?_
        refine pg_iconst (pc := 43) (v := 0) dX11_rests_43 (by decide) ?_
        refine pg_istore (pc := 44) (i := 6) (ls' := [(6, .int 0), (5, .int 0), (0, .ref 207), (1, .int v1), (2, .int v2), (3, .int v3), (4, .int v4)]) dX11_rests_44 (by decide) rfl ?_
        refine pg_iconst (pc := 46) (v := (-1)) dX11_rests_46 (by decide) ?_
        refine pg_istore (pc := 47) (i := 7) (ls' := [(7, .int (-1)), (6, .int 0), (5, .int 0), (0, .ref 207), (1, .int v1), (2, .int v2), (3, .int v3), (4, .int v4)]) dX11_rests_47 (by decide) rfl ?_
        refine pg_iconst (pc := 49) (v := 0) dX11_rests_49 (by decide) ?_
        refine pg_istore (pc := 50) (i := 8) (ls' := [(8, .int 0), (7, .int (-1)), (6, .int 0), (5, .int 0), (0, .ref 207), (1, .int v1), (2, .int v2), (3, .int v3), (4, .int v4)]) dX11_rests_50 (by decide) rfl ?_
        refine pg_drop (ks := [4, 5, 6, 7, 8, 3, 2, 1, 0]) (ls' := [(0, .ref 207), (1, .int v1), (2, .int v2), (3, .int v3), (4, .int v4), (5, .int 0), (6, .int 0), (7, .int (-1)), (8, .int 0)]) rfl ?_
        exact k2 x1 M1 w1 c0 x2 M2 w2 c1 x3 M3 w3 c2
      · skip
        refine pg_iload (pc := 30) (i := 4) (j := 4) (x := v4) dX11_rests_30 rfl ?_
        refine pg_iconst (pc := 32) (v := (-1)) dX11_rests_32 (by decide) ?_
        refine pg_icmp_lt (pc := 33) (tgt := 40) dX11_rests_33 (by decide) (fun c3 => ?_) (fun c3 => ?_)
        · skip
          refine pg_iconst (pc := 40) (v := 0) dX11_rests_40 (by decide) ?_
          refine pg_istore (pc := 41) (i := 5) (ls' := [(5, .int 0), (0, .ref 207), (1, .int v1), (2, .int v2), (3, .int v3), (4, .int v4)]) dX11_rests_41 (by decide) rfl ?_
          refine pg_iconst (pc := 43) (v := 0) dX11_rests_43 (by decide) ?_
          refine pg_istore (pc := 44) (i := 6) (ls' := [(6, .int 0), (5, .int 0), (0, .ref 207), (1, .int v1), (2, .int v2), (3, .int v3), (4, .int v4)]) dX11_rests_44 (by decide) rfl ?_
          refine pg_iconst (pc := 46) (v := (-1)) dX11_rests_46 (by decide) ?_
          refine pg_istore (pc := 47) (i := 7) (ls' := [(7, .int (-1)), (6, .int 0), (5, .int 0), (0, .ref 207), (1, .int v1), (2, .int v2), (3, .int v3), (4, .int v4)]) dX11_rests_47 (by decide) rfl ?_
          refine pg_iconst (pc := 49) (v := 0) dX11_rests_49 (by decide) ?_
          refine pg_istore (pc := 50) (i := 8) (ls' := [(8, .int 0), (7, .int (-1)), (6, .int 0), (5, .int 0), (0, .ref 207), (1, .int v1), (2, .int v2), (3, .int v3), (4, .int v4)]) dX11_rests_50 (by decide) rfl ?_
          refine pg_drop (ks := [4, 5, 6, 7, 8, 3, 2, 1, 0]) (ls' := [(0, .ref 207), (1, .int v1), (2, .int v2), (3, .int v3), (4, .int v4), (5, .int 0), (6, .int 0), (7, .int (-1)), (8, .int 0)]) rfl ?_
          exact k3 x1 M1 w1 c0 x2 M2 w2 c1 x3 M3 w3 c2 c3
        · skip
          refine pg_iconst (pc := 36) (v := 1) dX11_rests_36 (by decide) ?_
          refine pg_goto (pc := 37) (tgt := 41) dX11_rests_37 (by decide) ?_
          refine pg_istore (pc := 41) (i := 5) (ls' := [(5, .int 1), (0, .ref 207), (1, .int v1), (2, .int v2), (3, .int v3), (4, .int v4)]) dX11_rests_41 (by decide) rfl ?_
          refine pg_iconst (pc := 43) (v := 0) dX11_rests_43 (by decide) ?_
          refine pg_istore (pc := 44) (i := 6) (ls' := [(6, .int 0), (5, .int 1), (0, .ref 207), (1, .int v1), (2, .int v2), (3, .int v3), (4, .int v4)]) dX11_rests_44 (by decide) rfl ?_
          refine pg_iconst (pc := 46) (v := (-1)) dX11_rests_46 (by decide) ?_
          refine pg_istore (pc := 47) (i := 7) (ls' := [(7, .int (-1)), (6, .int 0), (5, .int 1), (0, .ref 207), (1, .int v1), (2, .int v2), (3, .int v3), (4, .int v4)]) dX11_rests_47 (by decide) rfl ?_
          refine pg_iconst (pc := 49) (v := 0) dX11_rests_49 (by decide) ?_
          refine pg_istore (pc := 50) (i := 8) (ls' := [(8, .int 0), (7, .int (-1)), (6, .int 0), (5, .int 1), (0, .ref 207), (1, .int v1), (2, .int v2), (3, .int v3), (4, .int v4)]) dX11_rests_50 (by decide) rfl ?_
          refine pg_drop (ks := [4, 5, 6, 7, 8, 3, 2, 1, 0]) (ls' := [(0, .ref 207), (1, .int v1), (2, .int v2), (3, .int v3), (4, .int v4), (5, .int 1), (6, .int 0), (7, .int (-1)), (8, .int 0)]) rfl ?_
          exact k4 x1 M1 w1 c0 x2 M2 w2 c1 x3 M3 w3 c2 c3
theorem sX11_rests_52 {v1 : Int32} {v2 : Int32} {v3 : Int32} {v4 : Int32} {v5 : Int32} {v6 : Int32} {v7 : Int32} {v8 : Int32} 
    (k0 : (9 ≤ v8) → pg_At S Λ YX11_rests (d + 1) 230 [(0, .ref 207), (4, .int v4), (5, .int v5), (6, .int v6), (7, .int v7)] [] M P)
    (k1 : (¬ 9 ≤ v8) → (v5 = 0) → pg_At S Λ YX11_rests (d + 1) 230 [(0, .ref 207), (4, .int v4), (5, .int v5), (6, .int v6), (7, .int v7)] [] M P)
    (k2 : (¬ 9 ≤ v8) → (¬ v5 = 0) → (¬ (v8 / 3) = (v8 - v8 / 3 * 3)) → (¬ (v8 - v8 / 3 * 3) = 0) → (¬ (v8 - v8 / 3 * 3) = 1) → pg_At S Λ YX11_rests (d + 1) 107 [(0, .ref 207), (1, .int v1), (2, .int v2), (3, .int v3), (4, .int v4), (5, .int v5), (6, .int v6), (7, .int v7), (8, .int v8), (9, .int (v8 / 3))] [.int v3] M P)
    (k3 : (¬ 9 ≤ v8) → (¬ v5 = 0) → (¬ (v8 / 3) = (v8 - v8 / 3 * 3)) → (¬ (v8 - v8 / 3 * 3) = 0) → ((v8 - v8 / 3 * 3) = 1) → pg_At S Λ YX11_rests (d + 1) 107 [(0, .ref 207), (1, .int v1), (2, .int v2), (3, .int v3), (4, .int v4), (5, .int v5), (6, .int v6), (7, .int v7), (8, .int v8), (9, .int (v8 / 3))] [.int v2] M P)
    (k4 : (¬ 9 ≤ v8) → (¬ v5 = 0) → (¬ (v8 / 3) = (v8 - v8 / 3 * 3)) → ((v8 - v8 / 3 * 3) = 0) → pg_At S Λ YX11_rests (d + 1) 107 [(0, .ref 207), (1, .int v1), (2, .int v2), (3, .int v3), (4, .int v4), (5, .int v5), (6, .int v6), (7, .int v7), (8, .int v8), (9, .int (v8 / 3))] [.int v1] M P)
    (k5 : (¬ 9 ≤ v8) → (¬ v5 = 0) → ((v8 / 3) = (v8 - v8 / 3 * 3)) → pg_At S Λ YX11_rests (d + 1) 107 [(0, .ref 207), (1, .int v1), (2, .int v2), (3, .int v3), (4, .int v4), (5, .int v5), (6, .int v6), (7, .int v7), (8, .int v8), (9, .int (v8 / 3))] [.int 0] M P) :
    pg_At S Λ YX11_rests (d + 1) 52 [(0, .ref 207), (1, .int v1), (2, .int v2), (3, .int v3), (4, .int v4), (5, .int v5), (6, .int v6), (7, .int v7), (8, .int v8)] [] M P := by
  refine pg_iload (pc := 52) (i := 8) (j := 8) (x := v8) dX11_rests_52 rfl ?_
  refine pg_bipush (pc := 54) (v := 9) dX11_rests_54 (by decide) ?_
  refine pg_icmp_ge (pc := 56) (tgt := 230) dX11_rests_56 (by decide) (fun c0 => ?_) (fun c0 => ?_)
  · skip
    refine pg_drop (ks := [0, 4, 5, 6, 7]) (ls' := [(0, .ref 207), (4, .int v4), (5, .int v5), (6, .int v6), (7, .int v7)]) rfl ?_
    exact k0 c0
  · skip
    refine pg_iload (pc := 59) (i := 5) (j := 5) (x := v5) dX11_rests_59 rfl ?_
    refine pg_if_eq (pc := 61) (tgt := 230) dX11_rests_61 (by decide) (fun c1 => ?_) (fun c1 => ?_)
    · skip
      refine pg_drop (ks := [0, 4, 5, 6, 7]) (ls' := [(0, .ref 207), (4, .int v4), (5, .int v5), (6, .int v6), (7, .int v7)]) rfl ?_
      exact k1 c0 c1
    · skip
      refine pg_iload (pc := 64) (i := 8) (j := 8) (x := v8) dX11_rests_64 rfl ?_
      refine pg_iconst (pc := 66) (v := 3) dX11_rests_66 (by decide) ?_
      refine pg_idiv (pc := 67) dX11_rests_67 (by decide) ?_
      refine pg_istore (pc := 68) (i := 9) (ls' := [(9, .int (v8 / 3)), (0, .ref 207), (1, .int v1), (2, .int v2), (3, .int v3), (4, .int v4), (5, .int v5), (6, .int v6), (7, .int v7), (8, .int v8)]) dX11_rests_68 (by decide) rfl ?_
      refine pg_iload (pc := 70) (i := 8) (j := 9) (x := v8) dX11_rests_70 rfl ?_
      refine pg_iconst (pc := 72) (v := 3) dX11_rests_72 (by decide) ?_
      refine pg_irem (pc := 73) dX11_rests_73 (by decide) ?_
      refine pg_istore (pc := 74) (i := 10) (ls' := [(10, .int (v8 - v8 / 3 * 3)), (9, .int (v8 / 3)), (0, .ref 207), (1, .int v1), (2, .int v2), (3, .int v3), (4, .int v4), (5, .int v5), (6, .int v6), (7, .int v7), (8, .int v8)]) dX11_rests_74 (by decide) rfl ?_
      refine pg_iload (pc := 76) (i := 9) (j := 1) (x := (v8 / 3)) dX11_rests_76 rfl ?_
      refine pg_iload (pc := 78) (i := 10) (j := 0) (x := (v8 - v8 / 3 * 3)) dX11_rests_78 rfl ?_
      refine pg_icmp_ne (pc := 80) (tgt := 87) dX11_rests_80 (by decide) (fun c2 => ?_) (fun c2 => ?_)
      · skip
        refine pg_iload (pc := 87) (i := 10) (j := 0) (x := (v8 - v8 / 3 * 3)) dX11_rests_87 rfl ?_
        refine pg_if_ne (pc := 89) (tgt := 96) dX11_rests_89 (by decide) (fun c3 => ?_) (fun c3 => ?_)
        · skip
          refine pg_iload (pc := 96) (i := 10) (j := 0) (x := (v8 - v8 / 3 * 3)) dX11_rests_96 rfl ?_
          refine pg_iconst (pc := 98) (v := 1) dX11_rests_98 (by decide) ?_
          refine pg_icmp_ne (pc := 99) (tgt := 106) dX11_rests_99 (by decide) (fun c4 => ?_) (fun c4 => ?_)
          · skip
            refine pg_iload_n (pc := 106) (i := 3) (j := 5) (x := v3) dX11_rests_106 rfl rfl ?_
            refine pg_drop (ks := [2, 3, 4, 5, 6, 7, 8, 9, 10, 1]) (ls' := [(0, .ref 207), (1, .int v1), (2, .int v2), (3, .int v3), (4, .int v4), (5, .int v5), (6, .int v6), (7, .int v7), (8, .int v8), (9, .int (v8 / 3))]) rfl ?_
            exact k2 c0 c1 c2 c3 c4
          · skip
            refine pg_iload_n (pc := 102) (i := 2) (j := 4) (x := v2) dX11_rests_102 rfl rfl ?_
            refine pg_goto (pc := 103) (tgt := 107) dX11_rests_103 (by decide) ?_
            refine pg_drop (ks := [2, 3, 4, 5, 6, 7, 8, 9, 10, 1]) (ls' := [(0, .ref 207), (1, .int v1), (2, .int v2), (3, .int v3), (4, .int v4), (5, .int v5), (6, .int v6), (7, .int v7), (8, .int v8), (9, .int (v8 / 3))]) rfl ?_
            exact k3 c0 c1 c2 c3 c4
        · skip
          refine pg_iload_n (pc := 92) (i := 1) (j := 3) (x := v1) dX11_rests_92 rfl rfl ?_
          refine pg_goto (pc := 93) (tgt := 107) dX11_rests_93 (by decide) ?_
          refine pg_drop (ks := [2, 3, 4, 5, 6, 7, 8, 9, 10, 1]) (ls' := [(0, .ref 207), (1, .int v1), (2, .int v2), (3, .int v3), (4, .int v4), (5, .int v5), (6, .int v6), (7, .int v7), (8, .int v8), (9, .int (v8 / 3))]) rfl ?_
          exact k4 c0 c1 c2 c3
      · skip
        refine pg_iconst (pc := 83) (v := 0) dX11_rests_83 (by decide) ?_
        refine pg_goto (pc := 84) (tgt := 107) dX11_rests_84 (by decide) ?_
        refine pg_drop (ks := [2, 3, 4, 5, 6, 7, 8, 9, 10, 1]) (ls' := [(0, .ref 207), (1, .int v1), (2, .int v2), (3, .int v3), (4, .int v4), (5, .int v5), (6, .int v6), (7, .int v7), (8, .int v8), (9, .int (v8 / 3))]) rfl ?_
        exact k5 c0 c1 c2
theorem sX11_rests_230 {v4 : Int32} {v5 : Int32} {v6 : Int32} {v7 : Int32} 
    (k0 : (v5 = 0) → pg_At S Λ YX11_rests (d + 1) 251 [(0, .ref 207), (4, .int v4), (6, .int v6), (7, .int v7)] [.int 1, .ref 207] M P)
    (k1 : (¬ v5 = 0) → (v4 < 0) → pg_At S Λ YX11_rests (d + 1) 251 [(0, .ref 207), (4, .int v4), (6, .int v6), (7, .int v7)] [.int 0, .ref 207] M P)
    (k2 : (¬ v5 = 0) → (¬ v4 < 0) → (v7 < 0) → pg_At S Λ YX11_rests (d + 1) 251 [(0, .ref 207), (4, .int v4), (6, .int v6), (7, .int v7)] [.int 1, .ref 207] M P)
    (k3 : (¬ v5 = 0) → (¬ v4 < 0) → (¬ v7 < 0) → pg_At S Λ YX11_rests (d + 1) 251 [(0, .ref 207), (4, .int v4), (6, .int v6), (7, .int v7)] [.int 0, .ref 207] M P) :
    pg_At S Λ YX11_rests (d + 1) 230 [(0, .ref 207), (4, .int v4), (5, .int v5), (6, .int v6), (7, .int v7)] [] M P := by
  refine pg_aload_n (pc := 230) (i := 0) (j := 0) (x := 207) dX11_rests_230 rfl rfl ?_
  refine pg_iload (pc := 231) (i := 5) (j := 2) (x := v5) dX11_rests_231 rfl ?_
  refine pg_if_eq (pc := 233) (tgt := 250) dX11_rests_233 (by decide) (fun c0 => ?_) (fun c0 => ?_)
  · skip
    refine pg_iconst (pc := 250) (v := 1) dX11_rests_250 (by decide) ?_
    refine pg_drop (ks := [0, 1, 3, 4]) (ls' := [(0, .ref 207), (4, .int v4), (6, .int v6), (7, .int v7)]) rfl ?_
    exact k0 c0
  · skip
    refine pg_iload (pc := 236) (i := 4) (j := 1) (x := v4) dX11_rests_236 rfl ?_
    refine pg_if_lt (pc := 238) (tgt := 246) dX11_rests_238 (by decide) (fun c1 => ?_) (fun c1 => ?_)
    · skip
      refine pg_iconst (pc := 246) (v := 0) dX11_rests_246 (by decide) ?_
      refine pg_goto (pc := 247) (tgt := 251) dX11_rests_247 (by decide) ?_
      refine pg_drop (ks := [0, 1, 3, 4]) (ls' := [(0, .ref 207), (4, .int v4), (6, .int v6), (7, .int v7)]) rfl ?_
      exact k1 c0 c1
    · skip
      refine pg_iload (pc := 241) (i := 7) (j := 4) (x := v7) dX11_rests_241 rfl ?_
      refine pg_if_lt (pc := 243) (tgt := 250) dX11_rests_243 (by decide) (fun c2 => ?_) (fun c2 => ?_)
      · skip
        refine pg_iconst (pc := 250) (v := 1) dX11_rests_250 (by decide) ?_
        refine pg_drop (ks := [0, 1, 3, 4]) (ls' := [(0, .ref 207), (4, .int v4), (6, .int v6), (7, .int v7)]) rfl ?_
        exact k2 c0 c1 c2
      · skip
        refine pg_iconst (pc := 246) (v := 0) dX11_rests_246 (by decide) ?_
        refine pg_goto (pc := 247) (tgt := 251) dX11_rests_247 (by decide) ?_
        refine pg_drop (ks := [0, 1, 3, 4]) (ls' := [(0, .ref 207), (4, .int v4), (6, .int v6), (7, .int v7)]) rfl ?_
        exact k3 c0 c1 c2
theorem sX11_rests_107 {v1 : Int32} {v2 : Int32} {v3 : Int32} {v4 : Int32} {v5 : Int32} {v6 : Int32} {v7 : Int32} {v8 : Int32} {v9 : Int32} {s0 : Int32} 
    (k0 : (¬ s0 = 0) → pg_At S Λ YX11_rests (d + 1) 124 [(0, .ref 207), (1, .int v1), (2, .int v2), (3, .int v3), (4, .int v4), (5, .int v5), (6, .int v6), (7, .int v7), (8, .int v8), (9, .int v9), (11, .int s0), (12, .int 0), (13, .int 0)] [] M P)
    (k1 : (s0 = 0) → pg_At S Λ YX11_rests (d + 1) 124 [(0, .ref 207), (1, .int v1), (2, .int v2), (3, .int v3), (4, .int v4), (5, .int v5), (6, .int v6), (7, .int v7), (8, .int v8), (9, .int v9), (11, .int s0), (12, .int 1), (13, .int 0)] [] M P) :
    pg_At S Λ YX11_rests (d + 1) 107 [(0, .ref 207), (1, .int v1), (2, .int v2), (3, .int v3), (4, .int v4), (5, .int v5), (6, .int v6), (7, .int v7), (8, .int v8), (9, .int v9)] [.int s0] M P := by
  refine pg_istore (pc := 107) (i := 11) (ls' := [(11, .int s0), (0, .ref 207), (1, .int v1), (2, .int v2), (3, .int v3), (4, .int v4), (5, .int v5), (6, .int v6), (7, .int v7), (8, .int v8), (9, .int v9)]) dX11_rests_107 (by decide) rfl ?_
  refine pg_iload (pc := 109) (i := 11) (j := 0) (x := s0) dX11_rests_109 rfl ?_
  refine pg_if_ne (pc := 111) (tgt := 118) dX11_rests_111 (by decide) (fun c0 => ?_) (fun c0 => ?_)
  · skip
    refine pg_iconst (pc := 118) (v := 0) dX11_rests_118 (by decide) ?_
    refine pg_istore (pc := 119) (i := 12) (ls' := [(12, .int 0), (11, .int s0), (0, .ref 207), (1, .int v1), (2, .int v2), (3, .int v3), (4, .int v4), (5, .int v5), (6, .int v6), (7, .int v7), (8, .int v8), (9, .int v9)]) dX11_rests_119 (by decide) rfl ?_
    refine pg_iconst (pc := 121) (v := 0) dX11_rests_121 (by decide) ?_
    refine pg_istore (pc := 122) (i := 13) (ls' := [(13, .int 0), (12, .int 0), (11, .int s0), (0, .ref 207), (1, .int v1), (2, .int v2), (3, .int v3), (4, .int v4), (5, .int v5), (6, .int v6), (7, .int v7), (8, .int v8), (9, .int v9)]) dX11_rests_122 (by decide) rfl ?_
    refine pg_drop (ks := [3, 4, 5, 6, 7, 8, 9, 10, 11, 12, 2, 1, 0]) (ls' := [(0, .ref 207), (1, .int v1), (2, .int v2), (3, .int v3), (4, .int v4), (5, .int v5), (6, .int v6), (7, .int v7), (8, .int v8), (9, .int v9), (11, .int s0), (12, .int 0), (13, .int 0)]) rfl ?_
    exact k0 c0
  · skip
    refine pg_iconst (pc := 114) (v := 1) dX11_rests_114 (by decide) ?_
    refine pg_goto (pc := 115) (tgt := 119) dX11_rests_115 (by decide) ?_
    refine pg_istore (pc := 119) (i := 12) (ls' := [(12, .int 1), (11, .int s0), (0, .ref 207), (1, .int v1), (2, .int v2), (3, .int v3), (4, .int v4), (5, .int v5), (6, .int v6), (7, .int v7), (8, .int v8), (9, .int v9)]) dX11_rests_119 (by decide) rfl ?_
    refine pg_iconst (pc := 121) (v := 0) dX11_rests_121 (by decide) ?_
    refine pg_istore (pc := 122) (i := 13) (ls' := [(13, .int 0), (12, .int 1), (11, .int s0), (0, .ref 207), (1, .int v1), (2, .int v2), (3, .int v3), (4, .int v4), (5, .int v5), (6, .int v6), (7, .int v7), (8, .int v8), (9, .int v9)]) dX11_rests_122 (by decide) rfl ?_
    refine pg_drop (ks := [3, 4, 5, 6, 7, 8, 9, 10, 11, 12, 2, 1, 0]) (ls' := [(0, .ref 207), (1, .int v1), (2, .int v2), (3, .int v3), (4, .int v4), (5, .int v5), (6, .int v6), (7, .int v7), (8, .int v8), (9, .int v9), (11, .int s0), (12, .int 1), (13, .int 0)]) rfl ?_
    exact k1 c0
theorem sX11_rests_251 {v4 : Int32} {v6 : Int32} {v7 : Int32} {s0 : Int32} 
    (h0 : pg_isX11 Λ)
    (k0 : (((pg_si M 207 0 s0).1 207 0) ≤ 0) → (0 ≤ v4) → P (some (.int v7)) (pg_si M 207 0 s0))
    (k1 : (((pg_si M 207 0 s0).1 207 0) ≤ 0) → (¬ 0 ≤ v4) → P (some (.int v6)) (pg_si M 207 0 s0))
    (k2 : (¬ ((pg_si M 207 0 s0).1 207 0) ≤ 0) → P (some (.int 0)) (pg_si M 207 0 s0)) :
    pg_At S Λ YX11_rests (d + 1) 251 [(0, .ref 207), (4, .int v4), (6, .int v6), (7, .int v7)] [.int s0, .ref 207] M P := by
  refine pfX11_1 (pc := 251) rfl h0 dX11_rests_251 ?_
  refine pg_aload_n (pc := 254) (i := 0) (j := 0) (x := 207) dX11_rests_254 rfl rfl ?_
  refine gfX11_1 (pc := 255) rfl h0 dX11_rests_255 ?_
  refine pg_if_le (pc := 258) (tgt := 265) dX11_rests_258 (by decide) (fun c0 => ?_) (fun c0 => ?_)
  · skip
    refine pg_iload (pc := 265) (i := 4) (j := 1) (x := v4) dX11_rests_265 rfl ?_
    refine pg_if_ge (pc := 267) (tgt := 275) dX11_rests_267 (by decide) (fun c1 => ?_) (fun c1 => ?_)
    · skip
      refine pg_iload (pc := 275) (i := 7) (j := 3) (x := v7) dX11_rests_275 rfl ?_
      exact pg_iret (pc := 277) rfl dX11_rests_277 (k0 c0 c1)
    · skip
      refine pg_iload (pc := 270) (i := 6) (j := 2) (x := v6) dX11_rests_270 rfl ?_
      refine pg_goto (pc := 272) (tgt := 277) dX11_rests_272 (by decide) ?_
      exact pg_iret (pc := 277) rfl dX11_rests_277 (k1 c0 c1)
  · skip
    refine pg_iconst (pc := 261) (v := 0) dX11_rests_261 (by decide) ?_
    refine pg_goto (pc := 262) (tgt := 277) dX11_rests_262 (by decide) ?_
    exact pg_iret (pc := 277) rfl dX11_rests_277 (k2 c0)
theorem sX11_rests_124 {v1 : Int32} {v2 : Int32} {v3 : Int32} {v4 : Int32} {v5 : Int32} {v6 : Int32} {v7 : Int32} {v8 : Int32} {v9 : Int32} {v11 : Int32} {v12 : Int32} {v13 : Int32} 
    (k0 : (3 ≤ v13) → (v12 = 0) → pg_At S Λ YX11_rests (d + 1) 207 [(0, .ref 207), (1, .int v1), (2, .int v2), (3, .int v3), (4, .int v4), (5, .int v5), (6, .int v6), (8, .int v8), (12, .int v12)] [.int v7] M P)
    (k1 : (3 ≤ v13) → (¬ v12 = 0) → (¬ v6 = v4) → pg_At S Λ YX11_rests (d + 1) 207 [(0, .ref 207), (1, .int v1), (2, .int v2), (3, .int v3), (4, .int v4), (5, .int v5), (6, .int v6), (8, .int v8), (12, .int v12)] [.int v7] M P)
    (k2 : (3 ≤ v13) → (¬ v12 = 0) → (v6 = v4) → pg_At S Λ YX11_rests (d + 1) 207 [(0, .ref 207), (1, .int v1), (2, .int v2), (3, .int v3), (4, .int v4), (5, .int v5), (6, .int v6), (8, .int v8), (12, .int v12)] [.int v8] M P)
    (k3 : (¬ 3 ≤ v13) → (¬ v9 = v13) → (¬ v13 = 0) → (¬ v13 = 1) → pg_At S Λ YX11_rests (d + 1) 161 [(0, .ref 207), (1, .int v1), (2, .int v2), (3, .int v3), (4, .int v4), (5, .int v5), (6, .int v6), (7, .int v7), (8, .int v8), (9, .int v9), (11, .int v11), (12, .int v12), (13, .int v13)] [.int v3] M P)
    (k4 : (¬ 3 ≤ v13) → (¬ v9 = v13) → (¬ v13 = 0) → (v13 = 1) → pg_At S Λ YX11_rests (d + 1) 161 [(0, .ref 207), (1, .int v1), (2, .int v2), (3, .int v3), (4, .int v4), (5, .int v5), (6, .int v6), (7, .int v7), (8, .int v8), (9, .int v9), (11, .int v11), (12, .int v12), (13, .int v13)] [.int v2] M P)
    (k5 : (¬ 3 ≤ v13) → (¬ v9 = v13) → (v13 = 0) → pg_At S Λ YX11_rests (d + 1) 161 [(0, .ref 207), (1, .int v1), (2, .int v2), (3, .int v3), (4, .int v4), (5, .int v5), (6, .int v6), (7, .int v7), (8, .int v8), (9, .int v9), (11, .int v11), (12, .int v12), (13, .int v13)] [.int v1] M P)
    (k6 : (¬ 3 ≤ v13) → (v9 = v13) → pg_At S Λ YX11_rests (d + 1) 161 [(0, .ref 207), (1, .int v1), (2, .int v2), (3, .int v3), (4, .int v4), (5, .int v5), (6, .int v6), (7, .int v7), (8, .int v8), (9, .int v9), (11, .int v11), (12, .int v12), (13, .int v13)] [.int 0] M P) :
    pg_At S Λ YX11_rests (d + 1) 124 [(0, .ref 207), (1, .int v1), (2, .int v2), (3, .int v3), (4, .int v4), (5, .int v5), (6, .int v6), (7, .int v7), (8, .int v8), (9, .int v9), (11, .int v11), (12, .int v12), (13, .int v13)] [] M P := by
  refine pg_iload (pc := 124) (i := 13) (j := 12) (x := v13) dX11_rests_124 rfl ?_
  refine pg_iconst (pc := 126) (v := 3) dX11_rests_126 (by decide) ?_
  refine pg_icmp_ge (pc := 127) (tgt := 188) dX11_rests_127 (by decide) (fun c0 => ?_) (fun c0 => ?_)
  · skip
    refine pg_iload (pc := 188) (i := 12) (j := 11) (x := v12) dX11_rests_188 rfl ?_
    refine pg_if_eq (pc := 190) (tgt := 205) dX11_rests_190 (by decide) (fun c1 => ?_) (fun c1 => ?_)
    · skip
      refine pg_iload (pc := 205) (i := 7) (j := 7) (x := v7) dX11_rests_205 rfl ?_
      refine pg_drop (ks := [0, 1, 2, 3, 4, 5, 6, 8, 11]) (ls' := [(0, .ref 207), (1, .int v1), (2, .int v2), (3, .int v3), (4, .int v4), (5, .int v5), (6, .int v6), (8, .int v8), (12, .int v12)]) rfl ?_
      exact k0 c0 c1
    · skip
      refine pg_iload (pc := 193) (i := 6) (j := 6) (x := v6) dX11_rests_193 rfl ?_
      refine pg_iload (pc := 195) (i := 4) (j := 4) (x := v4) dX11_rests_195 rfl ?_
      refine pg_icmp_ne (pc := 197) (tgt := 205) dX11_rests_197 (by decide) (fun c2 => ?_) (fun c2 => ?_)
      · skip
        refine pg_iload (pc := 205) (i := 7) (j := 7) (x := v7) dX11_rests_205 rfl ?_
        refine pg_drop (ks := [0, 1, 2, 3, 4, 5, 6, 8, 11]) (ls' := [(0, .ref 207), (1, .int v1), (2, .int v2), (3, .int v3), (4, .int v4), (5, .int v5), (6, .int v6), (8, .int v8), (12, .int v12)]) rfl ?_
        exact k1 c0 c1 c2
      · skip
        refine pg_iload (pc := 200) (i := 8) (j := 8) (x := v8) dX11_rests_200 rfl ?_
        refine pg_goto (pc := 202) (tgt := 207) dX11_rests_202 (by decide) ?_
        refine pg_drop (ks := [0, 1, 2, 3, 4, 5, 6, 8, 11]) (ls' := [(0, .ref 207), (1, .int v1), (2, .int v2), (3, .int v3), (4, .int v4), (5, .int v5), (6, .int v6), (8, .int v8), (12, .int v12)]) rfl ?_
        exact k2 c0 c1 c2
  · skip
    refine pg_iload (pc := 130) (i := 9) (j := 9) (x := v9) dX11_rests_130 rfl ?_
    refine pg_iload (pc := 132) (i := 13) (j := 12) (x := v13) dX11_rests_132 rfl ?_
    refine pg_icmp_ne (pc := 134) (tgt := 141) dX11_rests_134 (by decide) (fun c1 => ?_) (fun c1 => ?_)
    · skip
      refine pg_iload (pc := 141) (i := 13) (j := 12) (x := v13) dX11_rests_141 rfl ?_
      refine pg_if_ne (pc := 143) (tgt := 150) dX11_rests_143 (by decide) (fun c2 => ?_) (fun c2 => ?_)
      · skip
        refine pg_iload (pc := 150) (i := 13) (j := 12) (x := v13) dX11_rests_150 rfl ?_
        refine pg_iconst (pc := 152) (v := 1) dX11_rests_152 (by decide) ?_
        refine pg_icmp_ne (pc := 153) (tgt := 160) dX11_rests_153 (by decide) (fun c3 => ?_) (fun c3 => ?_)
        · skip
          refine pg_iload_n (pc := 160) (i := 3) (j := 3) (x := v3) dX11_rests_160 rfl rfl ?_
          exact k3 c0 c1 c2 c3
        · skip
          refine pg_iload_n (pc := 156) (i := 2) (j := 2) (x := v2) dX11_rests_156 rfl rfl ?_
          refine pg_goto (pc := 157) (tgt := 161) dX11_rests_157 (by decide) ?_
          exact k4 c0 c1 c2 c3
      · skip
        refine pg_iload_n (pc := 146) (i := 1) (j := 1) (x := v1) dX11_rests_146 rfl rfl ?_
        refine pg_goto (pc := 147) (tgt := 161) dX11_rests_147 (by decide) ?_
        exact k5 c0 c1 c2
    · skip
      refine pg_iconst (pc := 137) (v := 0) dX11_rests_137 (by decide) ?_
      refine pg_goto (pc := 138) (tgt := 161) dX11_rests_138 (by decide) ?_
      exact k6 c0 c1
theorem sX11_rests_207 {v1 : Int32} {v2 : Int32} {v3 : Int32} {v4 : Int32} {v5 : Int32} {v6 : Int32} {v8 : Int32} {v12 : Int32} {s0 : Int32} 
    (k0 : (v12 = 0) → pg_At S Λ YX11_rests (d + 1) 52 [(0, .ref 207), (1, .int v1), (2, .int v2), (3, .int v3), (4, .int v4), (5, .int v5), (6, .int (v6 + 0)), (7, .int s0), (8, .int (v8 + 1))] [] M P)
    (k1 : (¬ v12 = 0) → pg_At S Λ YX11_rests (d + 1) 52 [(0, .ref 207), (1, .int v1), (2, .int v2), (3, .int v3), (4, .int v4), (5, .int v5), (6, .int (v6 + 1)), (7, .int s0), (8, .int (v8 + 1))] [] M P) :
    pg_At S Λ YX11_rests (d + 1) 207 [(0, .ref 207), (1, .int v1), (2, .int v2), (3, .int v3), (4, .int v4), (5, .int v5), (6, .int v6), (8, .int v8), (12, .int v12)] [.int s0] M P := by
  refine pg_istore (pc := 207) (i := 7) (ls' := [(7, .int s0), (0, .ref 207), (1, .int v1), (2, .int v2), (3, .int v3), (4, .int v4), (5, .int v5), (6, .int v6), (8, .int v8), (12, .int v12)]) dX11_rests_207 (by decide) rfl ?_
  refine pg_iload (pc := 209) (i := 6) (j := 7) (x := v6) dX11_rests_209 rfl ?_
  refine pg_iload (pc := 211) (i := 12) (j := 9) (x := v12) dX11_rests_211 rfl ?_
  refine pg_if_eq (pc := 213) (tgt := 220) dX11_rests_213 (by decide) (fun c0 => ?_) (fun c0 => ?_)
  · skip
    refine pg_iconst (pc := 220) (v := 0) dX11_rests_220 (by decide) ?_
    refine pg_iadd (pc := 221) dX11_rests_221 ?_
    refine pg_istore (pc := 222) (i := 6) (ls' := [(6, .int (v6 + 0)), (7, .int s0), (0, .ref 207), (1, .int v1), (2, .int v2), (3, .int v3), (4, .int v4), (5, .int v5), (8, .int v8), (12, .int v12)]) dX11_rests_222 (by decide) rfl ?_
    refine pg_iinc (pc := 224) (i := 8) (j := 8) (x := v8) (v := v8 + 1) (ls' := [(8, .int (v8 + 1)), (6, .int (v6 + 0)), (7, .int s0), (0, .ref 207), (1, .int v1), (2, .int v2), (3, .int v3), (4, .int v4), (5, .int v5), (12, .int v12)]) dX11_rests_224 rfl rfl (by decide) rfl ?_
    refine pg_goto (pc := 227) (tgt := 52) dX11_rests_227 (by decide) ?_
    refine pg_drop (ks := [3, 4, 5, 6, 7, 8, 1, 2, 0]) (ls' := [(0, .ref 207), (1, .int v1), (2, .int v2), (3, .int v3), (4, .int v4), (5, .int v5), (6, .int (v6 + 0)), (7, .int s0), (8, .int (v8 + 1))]) rfl ?_
    exact k0 c0
  · skip
    refine pg_iconst (pc := 216) (v := 1) dX11_rests_216 (by decide) ?_
    refine pg_goto (pc := 217) (tgt := 221) dX11_rests_217 (by decide) ?_
    refine pg_iadd (pc := 221) dX11_rests_221 ?_
    refine pg_istore (pc := 222) (i := 6) (ls' := [(6, .int (v6 + 1)), (7, .int s0), (0, .ref 207), (1, .int v1), (2, .int v2), (3, .int v3), (4, .int v4), (5, .int v5), (8, .int v8), (12, .int v12)]) dX11_rests_222 (by decide) rfl ?_
    refine pg_iinc (pc := 224) (i := 8) (j := 8) (x := v8) (v := v8 + 1) (ls' := [(8, .int (v8 + 1)), (6, .int (v6 + 1)), (7, .int s0), (0, .ref 207), (1, .int v1), (2, .int v2), (3, .int v3), (4, .int v4), (5, .int v5), (12, .int v12)]) dX11_rests_224 rfl rfl (by decide) rfl ?_
    refine pg_goto (pc := 227) (tgt := 52) dX11_rests_227 (by decide) ?_
    refine pg_drop (ks := [3, 4, 5, 6, 7, 8, 1, 2, 0]) (ls' := [(0, .ref 207), (1, .int v1), (2, .int v2), (3, .int v3), (4, .int v4), (5, .int v5), (6, .int (v6 + 1)), (7, .int s0), (8, .int (v8 + 1))]) rfl ?_
    exact k1 c0
theorem sX11_rests_161 {v1 : Int32} {v2 : Int32} {v3 : Int32} {v4 : Int32} {v5 : Int32} {v6 : Int32} {v7 : Int32} {v8 : Int32} {v9 : Int32} {v11 : Int32} {v12 : Int32} {v13 : Int32} {s0 : Int32} 
    (k0 : (v12 = 0) → pg_At S Λ YX11_rests (d + 1) 124 [(0, .ref 207), (1, .int v1), (2, .int v2), (3, .int v3), (4, .int v4), (5, .int v5), (6, .int v6), (7, .int v7), (8, .int v8), (9, .int v9), (11, .int v11), (12, .int 0), (13, .int (v13 + 1))] [] M P)
    (k1 : (¬ v12 = 0) → (v11 < s0) → pg_At S Λ YX11_rests (d + 1) 124 [(0, .ref 207), (1, .int v1), (2, .int v2), (3, .int v3), (4, .int v4), (5, .int v5), (6, .int v6), (7, .int v7), (8, .int v8), (9, .int v9), (11, .int v11), (12, .int 0), (13, .int (v13 + 1))] [] M P)
    (k2 : (¬ v12 = 0) → (¬ v11 < s0) → pg_At S Λ YX11_rests (d + 1) 124 [(0, .ref 207), (1, .int v1), (2, .int v2), (3, .int v3), (4, .int v4), (5, .int v5), (6, .int v6), (7, .int v7), (8, .int v8), (9, .int v9), (11, .int v11), (12, .int 1), (13, .int (v13 + 1))] [] M P) :
    pg_At S Λ YX11_rests (d + 1) 161 [(0, .ref 207), (1, .int v1), (2, .int v2), (3, .int v3), (4, .int v4), (5, .int v5), (6, .int v6), (7, .int v7), (8, .int v8), (9, .int v9), (11, .int v11), (12, .int v12), (13, .int v13)] [.int s0] M P := by
  refine pg_istore (pc := 161) (i := 14) (ls' := [(14, .int s0), (0, .ref 207), (1, .int v1), (2, .int v2), (3, .int v3), (4, .int v4), (5, .int v5), (6, .int v6), (7, .int v7), (8, .int v8), (9, .int v9), (11, .int v11), (12, .int v12), (13, .int v13)]) dX11_rests_161 (by decide) rfl ?_
  refine pg_iload (pc := 163) (i := 12) (j := 12) (x := v12) dX11_rests_163 rfl ?_
  refine pg_if_eq (pc := 165) (tgt := 179) dX11_rests_165 (by decide) (fun c0 => ?_) (fun c0 => ?_)
  · skip
    refine pg_iconst (pc := 179) (v := 0) dX11_rests_179 (by decide) ?_
    refine pg_istore (pc := 180) (i := 12) (ls' := [(12, .int 0), (14, .int s0), (0, .ref 207), (1, .int v1), (2, .int v2), (3, .int v3), (4, .int v4), (5, .int v5), (6, .int v6), (7, .int v7), (8, .int v8), (9, .int v9), (11, .int v11), (13, .int v13)]) dX11_rests_180 (by decide) rfl ?_
    refine pg_iinc (pc := 182) (i := 13) (j := 13) (x := v13) (v := v13 + 1) (ls' := [(13, .int (v13 + 1)), (12, .int 0), (14, .int s0), (0, .ref 207), (1, .int v1), (2, .int v2), (3, .int v3), (4, .int v4), (5, .int v5), (6, .int v6), (7, .int v7), (8, .int v8), (9, .int v9), (11, .int v11)]) dX11_rests_182 rfl rfl (by decide) rfl ?_
    refine pg_goto (pc := 185) (tgt := 124) dX11_rests_185 (by decide) ?_
    refine pg_drop (ks := [3, 4, 5, 6, 7, 8, 9, 10, 11, 12, 13, 1, 0]) (ls' := [(0, .ref 207), (1, .int v1), (2, .int v2), (3, .int v3), (4, .int v4), (5, .int v5), (6, .int v6), (7, .int v7), (8, .int v8), (9, .int v9), (11, .int v11), (12, .int 0), (13, .int (v13 + 1))]) rfl ?_
    exact k0 c0
  · skip
    refine pg_iload (pc := 168) (i := 14) (j := 0) (x := s0) dX11_rests_168 rfl ?_
    refine pg_iload (pc := 170) (i := 11) (j := 11) (x := v11) dX11_rests_170 rfl ?_
    refine pg_icmp_gt (pc := 172) (tgt := 179) dX11_rests_172 (by decide) (fun c1 => ?_) (fun c1 => ?_)
    · skip
      refine pg_iconst (pc := 179) (v := 0) dX11_rests_179 (by decide) ?_
      refine pg_istore (pc := 180) (i := 12) (ls' := [(12, .int 0), (14, .int s0), (0, .ref 207), (1, .int v1), (2, .int v2), (3, .int v3), (4, .int v4), (5, .int v5), (6, .int v6), (7, .int v7), (8, .int v8), (9, .int v9), (11, .int v11), (13, .int v13)]) dX11_rests_180 (by decide) rfl ?_
      refine pg_iinc (pc := 182) (i := 13) (j := 13) (x := v13) (v := v13 + 1) (ls' := [(13, .int (v13 + 1)), (12, .int 0), (14, .int s0), (0, .ref 207), (1, .int v1), (2, .int v2), (3, .int v3), (4, .int v4), (5, .int v5), (6, .int v6), (7, .int v7), (8, .int v8), (9, .int v9), (11, .int v11)]) dX11_rests_182 rfl rfl (by decide) rfl ?_
      refine pg_goto (pc := 185) (tgt := 124) dX11_rests_185 (by decide) ?_
      refine pg_drop (ks := [3, 4, 5, 6, 7, 8, 9, 10, 11, 12, 13, 1, 0]) (ls' := [(0, .ref 207), (1, .int v1), (2, .int v2), (3, .int v3), (4, .int v4), (5, .int v5), (6, .int v6), (7, .int v7), (8, .int v8), (9, .int v9), (11, .int v11), (12, .int 0), (13, .int (v13 + 1))]) rfl ?_
      exact k1 c0 c1
    · skip
      refine pg_iconst (pc := 175) (v := 1) dX11_rests_175 (by decide) ?_
      refine pg_goto (pc := 176) (tgt := 180) dX11_rests_176 (by decide) ?_
      refine pg_istore (pc := 180) (i := 12) (ls' := [(12, .int 1), (14, .int s0), (0, .ref 207), (1, .int v1), (2, .int v2), (3, .int v3), (4, .int v4), (5, .int v5), (6, .int v6), (7, .int v7), (8, .int v8), (9, .int v9), (11, .int v11), (13, .int v13)]) dX11_rests_180 (by decide) rfl ?_
      refine pg_iinc (pc := 182) (i := 13) (j := 13) (x := v13) (v := v13 + 1) (ls' := [(13, .int (v13 + 1)), (12, .int 1), (14, .int s0), (0, .ref 207), (1, .int v1), (2, .int v2), (3, .int v3), (4, .int v4), (5, .int v5), (6, .int v6), (7, .int v7), (8, .int v8), (9, .int v9), (11, .int v11)]) dX11_rests_182 rfl rfl (by decide) rfl ?_
      refine pg_goto (pc := 185) (tgt := 124) dX11_rests_185 (by decide) ?_
      refine pg_drop (ks := [3, 4, 5, 6, 7, 8, 9, 10, 11, 12, 13, 1, 0]) (ls' := [(0, .ref 207), (1, .int v1), (2, .int v2), (3, .int v3), (4, .int v4), (5, .int v5), (6, .int v6), (7, .int v7), (8, .int v8), (9, .int v9), (11, .int v11), (12, .int 1), (13, .int (v13 + 1))]) rfl ?_
      exact k2 c0 c1
theorem oX11_rests {d : Nat} {v1 : Int32} {v2 : Int32} {v3 : Int32} {v4 : Int32} (h : pg_At S Λ YX11_rests d 0 [(0, .ref 207), (1, .int v1), (2, .int v2), (3, .int v3), (4, .int v4)] [] M P) : pg_Ev S Λ YX11_rests d [.ref 207, .int v1, .int v2, .int v3, .int v4] M P := pg_Ev.of (by decide) (by first | decide | exact Nat.le_of_ble_eq_true rfl) h
theorem sX11_draw_0 {v1 : Int32} 
    (h0 : pg_isX11 Λ)
    (b0 : ∀ N1, N1 = pg_sj M 207 37 ((((M.2.1 207 37) * 1103515245) + 12345) - (((M.2.1 207 37) * 1103515245) + 12345) / 2147483648 * 2147483648) → ¬ v1.toInt64 = 0)
    (k0 : ∀ N1, N1 = pg_sj M 207 37 ((((M.2.1 207 37) * 1103515245) + 12345) - (((M.2.1 207 37) * 1103515245) + 12345) / 2147483648 * 2147483648) → P (some (.int ((((N1.2.1 207 37) / 65536) - ((N1.2.1 207 37) / 65536) / v1.toInt64 * v1.toInt64).toInt32))) N1) :
    pg_At S Λ YX11_draw d 0 [(0, .ref 207), (1, .int v1)] [] M P := by
  refine pg_aload_n (pc := 0) (i := 0) (j := 0) (x := 207) dX11_draw_0 rfl rfl ?_
  refine pg_aload_n (pc := 1) (i := 0) (j := 0) (x := 207) dX11_draw_1 rfl rfl ?_
  refine gfX11_431 (pc := 2) rfl h0 dX11_draw_2 ?_
  refine pg_ldc2 (pc := 5) (v := 1103515245) kX11_435 dX11_draw_5 ?_
  refine pg_lmul (pc := 8) dX11_draw_8 ?_
  refine pg_ldc2 (pc := 9) (v := 12345) kX11_437 dX11_draw_9 ?_
  refine pg_ladd (pc := 12) dX11_draw_12 ?_
  refine pg_ldc2 (pc := 13) (v := 2147483648) kX11_439 dX11_draw_13 ?_
  refine pg_lrem (pc := 16) dX11_draw_16 (by decide) ?_
  refine pfX11_431 (pc := 17) rfl h0 dX11_draw_17 ?_
  refine pg_named (fun N1 u1 => ?_)
  refine pg_aload_n (pc := 20) (i := 0) (j := 0) (x := 207) dX11_draw_20 rfl rfl ?_
  refine gfX11_431 (pc := 21) rfl h0 dX11_draw_21 ?_
  refine pg_ldc2 (pc := 24) (v := 65536) kX11_441 dX11_draw_24 ?_
  refine pg_ldiv (pc := 27) dX11_draw_27 (by decide) ?_
  refine pg_iload_n (pc := 28) (i := 1) (j := 1) (x := v1) dX11_draw_28 rfl rfl ?_
  refine pg_i2l (pc := 29) dX11_draw_29 rfl ?_
  refine pg_lrem (pc := 30) dX11_draw_30 (b0 N1 u1) ?_
  refine pg_l2i (pc := 31) dX11_draw_31 rfl ?_
  exact pg_iret (pc := 32) rfl dX11_draw_32 (k0 N1 u1)
theorem oX11_draw {d : Nat} {v1 : Int32} (h : pg_At S Λ YX11_draw d 0 [(0, .ref 207), (1, .int v1)] [] M P) : pg_Ev S Λ YX11_draw d [.ref 207, .int v1] M P := pg_Ev.of (by decide) (by first | decide | exact Nat.le_of_ble_eq_true rfl) h
theorem sX11_firstFree_0 {v1 : Int32} {v2 : Int32} {Q0 : Int32 → pg_M → Prop}
    (h0 : pg_isX11 Λ)
    (e0 : pg_Ev S Λ YX11_freePegs d [.ref 207, .int v1] M (fun r M' => ∃ x, r = some (.int x) ∧ Q0 x M'))
    (k0 : ∀ x1 M1, Q0 x1 M1 → pg_At S Λ YX11_firstFree (d + 1) 15 [(2, .int v2), (3, .int x1), (4, .int 0), (5, .int 0), (6, .int 0)] [] M1 P) :
    pg_At S Λ YX11_firstFree (d + 1) 0 [(0, .ref 207), (1, .int v1), (2, .int v2)] [] M P := by
  refine pg_aload_n (pc := 0) (i := 0) (j := 0) (x := 207) dX11_firstFree_0 rfl rfl ?_
  refine pg_iload_n (pc := 1) (i := 1) (j := 1) (x := v1) dX11_firstFree_1 rfl rfl ?_
  refine pg_callV (pc := 2) (As := [.int v1]) (st := []) okX11_freePegs lkX11_361 rfl h0.1 rfl (Nat.le_refl _) (Nat.le_of_ble_eq_true rfl) e0 dX11_firstFree_2 (fun r1 M1 w1 => ?_)
  obtain ⟨x1, rfl, w1⟩ := w1
  refine pg_istore_n (pc := 5) (i := 3) (ls' := [(3, .int x1), (0, .ref 207), (1, .int v1), (2, .int v2)]) dX11_firstFree_5 rfl (by decide) rfl ?_
  refine pg_iconst (pc := 6) (v := 0) dX11_firstFree_6 (by decide) ?_
  refine pg_istore (pc := 7) (i := 4) (ls' := [(4, .int 0), (3, .int x1), (0, .ref 207), (1, .int v1), (2, .int v2)]) dX11_firstFree_7 (by decide) rfl ?_
  refine pg_iconst (pc := 9) (v := 0) dX11_firstFree_9 (by decide) ?_
  refine pg_istore (pc := 10) (i := 5) (ls' := [(5, .int 0), (4, .int 0), (3, .int x1), (0, .ref 207), (1, .int v1), (2, .int v2)]) dX11_firstFree_10 (by decide) rfl ?_
  refine pg_iconst (pc := 12) (v := 0) dX11_firstFree_12 (by decide) ?_
  refine pg_istore (pc := 13) (i := 6) (ls' := [(6, .int 0), (5, .int 0), (4, .int 0), (3, .int x1), (0, .ref 207), (1, .int v1), (2, .int v2)]) dX11_firstFree_13 (by decide) rfl ?_
  refine pg_drop (ks := [6, 3, 2, 1, 0]) (ls' := [(2, .int v2), (3, .int x1), (4, .int 0), (5, .int 0), (6, .int 0)]) rfl ?_
  exact k0 x1 M1 w1
theorem sX11_firstFree_15 {v2 : Int32} {v3 : Int32} {v4 : Int32} {v5 : Int32} {v6 : Int32} 
    (k0 : (8 ≤ v6) → P (some (.int v4)) M)
    (k1 : (¬ 8 ≤ v6) → (v2 ≤ v5) → pg_At S Λ YX11_firstFree (d + 1) 43 [(2, .int v2), (3, .int v3), (4, .int v4), (5, .int v5), (6, .int v6)] [.int 0] M P)
    (k2 : (¬ 8 ≤ v6) → (¬ v2 ≤ v5) → (¬ ((v3 >>> (v6 &&& 31)) &&& 1) = 1) → pg_At S Λ YX11_firstFree (d + 1) 43 [(2, .int v2), (3, .int v3), (4, .int v4), (5, .int v5), (6, .int v6)] [.int 0] M P)
    (k3 : (¬ 8 ≤ v6) → (¬ v2 ≤ v5) → (((v3 >>> (v6 &&& 31)) &&& 1) = 1) → pg_At S Λ YX11_firstFree (d + 1) 43 [(2, .int v2), (3, .int v3), (4, .int v4), (5, .int v5), (6, .int v6)] [.int 1] M P) :
    pg_At S Λ YX11_firstFree (d + 1) 15 [(2, .int v2), (3, .int v3), (4, .int v4), (5, .int v5), (6, .int v6)] [] M P := by
  refine pg_iload (pc := 15) (i := 6) (j := 4) (x := v6) dX11_firstFree_15 rfl ?_
  refine pg_bipush (pc := 17) (v := 8) dX11_firstFree_17 (by decide) ?_
  refine pg_icmp_ge (pc := 19) (tgt := 84) dX11_firstFree_19 (by decide) (fun c0 => ?_) (fun c0 => ?_)
  · skip
    refine pg_iload (pc := 84) (i := 4) (j := 2) (x := v4) dX11_firstFree_84 rfl ?_
    exact pg_iret (pc := 86) rfl dX11_firstFree_86 (k0 c0)
  · skip
    refine pg_iload (pc := 22) (i := 5) (j := 3) (x := v5) dX11_firstFree_22 rfl ?_
    refine pg_iload_n (pc := 24) (i := 2) (j := 0) (x := v2) dX11_firstFree_24 rfl rfl ?_
    refine pg_icmp_ge (pc := 25) (tgt := 42) dX11_firstFree_25 (by decide) (fun c1 => ?_) (fun c1 => ?_)
    · skip
      refine pg_iconst (pc := 42) (v := 0) dX11_firstFree_42 (by decide) ?_
      exact k1 c0 c1
    · skip
      refine pg_iload_n (pc := 28) (i := 3) (j := 1) (x := v3) dX11_firstFree_28 rfl rfl ?_
      refine pg_iload (pc := 29) (i := 6) (j := 4) (x := v6) dX11_firstFree_29 rfl ?_
      refine pg_ishr (pc := 31) dX11_firstFree_31 ?_
      refine pg_iconst (pc := 32) (v := 1) dX11_firstFree_32 (by decide) ?_
      refine pg_iand (pc := 33) dX11_firstFree_33 ?_
      refine pg_iconst (pc := 34) (v := 1) dX11_firstFree_34 (by decide) ?_
      refine pg_icmp_ne (pc := 35) (tgt := 42) dX11_firstFree_35 (by decide) (fun c2 => ?_) (fun c2 => ?_)
      · skip
        refine pg_iconst (pc := 42) (v := 0) dX11_firstFree_42 (by decide) ?_
        exact k2 c0 c1 c2
      · skip
        refine pg_iconst (pc := 38) (v := 1) dX11_firstFree_38 (by decide) ?_
        refine pg_goto (pc := 39) (tgt := 43) dX11_firstFree_39 (by decide) ?_
        exact k3 c0 c1 c2
theorem sX11_firstFree_43 {v2 : Int32} {v3 : Int32} {v4 : Int32} {v5 : Int32} {v6 : Int32} {s0 : Int32} 
    (k0 : (s0 = 0) → (s0 = 0) → pg_At S Λ YX11_firstFree (d + 1) 15 [(2, .int v2), (3, .int v3), (4, .int (v4 ||| 0)), (5, .int (v5 + 0)), (6, .int (v6 + 1))] [] M P)
    (k1 : (s0 = 0) → (¬ s0 = 0) → pg_At S Λ YX11_firstFree (d + 1) 15 [(2, .int v2), (3, .int v3), (4, .int (v4 ||| 0)), (5, .int (v5 + 1)), (6, .int (v6 + 1))] [] M P)
    (k2 : (¬ s0 = 0) → (s0 = 0) → pg_At S Λ YX11_firstFree (d + 1) 15 [(2, .int v2), (3, .int v3), (4, .int (v4 ||| ((1 : Int32) <<< (v6 &&& 31)))), (5, .int (v5 + 0)), (6, .int (v6 + 1))] [] M P)
    (k3 : (¬ s0 = 0) → (¬ s0 = 0) → pg_At S Λ YX11_firstFree (d + 1) 15 [(2, .int v2), (3, .int v3), (4, .int (v4 ||| ((1 : Int32) <<< (v6 &&& 31)))), (5, .int (v5 + 1)), (6, .int (v6 + 1))] [] M P) :
    pg_At S Λ YX11_firstFree (d + 1) 43 [(2, .int v2), (3, .int v3), (4, .int v4), (5, .int v5), (6, .int v6)] [.int s0] M P := by
  refine pg_istore (pc := 43) (i := 7) (ls' := [(7, .int s0), (2, .int v2), (3, .int v3), (4, .int v4), (5, .int v5), (6, .int v6)]) dX11_firstFree_43 (by decide) rfl ?_
  refine pg_iload (pc := 45) (i := 4) (j := 3) (x := v4) dX11_firstFree_45 rfl ?_
  refine pg_iload (pc := 47) (i := 7) (j := 0) (x := s0) dX11_firstFree_47 rfl ?_
  refine pg_if_eq (pc := 49) (tgt := 59) dX11_firstFree_49 (by decide) (fun c0 => ?_) (fun c0 => ?_)
  · skip
    refine pg_iconst (pc := 59) (v := 0) dX11_firstFree_59 (by decide) ?_
    refine pg_ior (pc := 60) dX11_firstFree_60 ?_
    refine pg_istore (pc := 61) (i := 4) (ls' := [(4, .int (v4 ||| 0)), (7, .int s0), (2, .int v2), (3, .int v3), (5, .int v5), (6, .int v6)]) dX11_firstFree_61 (by decide) rfl ?_
    refine pg_iload (pc := 63) (i := 5) (j := 4) (x := v5) dX11_firstFree_63 rfl ?_
    refine pg_iload (pc := 65) (i := 7) (j := 1) (x := s0) dX11_firstFree_65 rfl ?_
    refine pg_if_eq (pc := 67) (tgt := 74) dX11_firstFree_67 (by decide) (fun c1 => ?_) (fun c1 => ?_)
    · skip
      refine pg_iconst (pc := 74) (v := 0) dX11_firstFree_74 (by decide) ?_
      refine pg_iadd (pc := 75) dX11_firstFree_75 ?_
      refine pg_istore (pc := 76) (i := 5) (ls' := [(5, .int (v5 + 0)), (4, .int (v4 ||| 0)), (7, .int s0), (2, .int v2), (3, .int v3), (6, .int v6)]) dX11_firstFree_76 (by decide) rfl ?_
      refine pg_iinc (pc := 78) (i := 6) (j := 5) (x := v6) (v := v6 + 1) (ls' := [(6, .int (v6 + 1)), (5, .int (v5 + 0)), (4, .int (v4 ||| 0)), (7, .int s0), (2, .int v2), (3, .int v3)]) dX11_firstFree_78 rfl rfl (by decide) rfl ?_
      refine pg_goto (pc := 81) (tgt := 15) dX11_firstFree_81 (by decide) ?_
      refine pg_drop (ks := [4, 5, 2, 1, 0]) (ls' := [(2, .int v2), (3, .int v3), (4, .int (v4 ||| 0)), (5, .int (v5 + 0)), (6, .int (v6 + 1))]) rfl ?_
      exact k0 c0 c1
    · skip
      refine pg_iconst (pc := 70) (v := 1) dX11_firstFree_70 (by decide) ?_
      refine pg_goto (pc := 71) (tgt := 75) dX11_firstFree_71 (by decide) ?_
      refine pg_iadd (pc := 75) dX11_firstFree_75 ?_
      refine pg_istore (pc := 76) (i := 5) (ls' := [(5, .int (v5 + 1)), (4, .int (v4 ||| 0)), (7, .int s0), (2, .int v2), (3, .int v3), (6, .int v6)]) dX11_firstFree_76 (by decide) rfl ?_
      refine pg_iinc (pc := 78) (i := 6) (j := 5) (x := v6) (v := v6 + 1) (ls' := [(6, .int (v6 + 1)), (5, .int (v5 + 1)), (4, .int (v4 ||| 0)), (7, .int s0), (2, .int v2), (3, .int v3)]) dX11_firstFree_78 rfl rfl (by decide) rfl ?_
      refine pg_goto (pc := 81) (tgt := 15) dX11_firstFree_81 (by decide) ?_
      refine pg_drop (ks := [4, 5, 2, 1, 0]) (ls' := [(2, .int v2), (3, .int v3), (4, .int (v4 ||| 0)), (5, .int (v5 + 1)), (6, .int (v6 + 1))]) rfl ?_
      exact k1 c0 c1
  · skip
    refine pg_iconst (pc := 52) (v := 1) dX11_firstFree_52 (by decide) ?_
    refine pg_iload (pc := 53) (i := 6) (j := 5) (x := v6) dX11_firstFree_53 rfl ?_
    refine pg_ishl (pc := 55) dX11_firstFree_55 ?_
    refine pg_goto (pc := 56) (tgt := 60) dX11_firstFree_56 (by decide) ?_
    refine pg_ior (pc := 60) dX11_firstFree_60 ?_
    refine pg_istore (pc := 61) (i := 4) (ls' := [(4, .int (v4 ||| ((1 : Int32) <<< (v6 &&& 31)))), (7, .int s0), (2, .int v2), (3, .int v3), (5, .int v5), (6, .int v6)]) dX11_firstFree_61 (by decide) rfl ?_
    refine pg_iload (pc := 63) (i := 5) (j := 4) (x := v5) dX11_firstFree_63 rfl ?_
    refine pg_iload (pc := 65) (i := 7) (j := 1) (x := s0) dX11_firstFree_65 rfl ?_
    refine pg_if_eq (pc := 67) (tgt := 74) dX11_firstFree_67 (by decide) (fun c1 => ?_) (fun c1 => ?_)
    · skip
      refine pg_iconst (pc := 74) (v := 0) dX11_firstFree_74 (by decide) ?_
      refine pg_iadd (pc := 75) dX11_firstFree_75 ?_
      refine pg_istore (pc := 76) (i := 5) (ls' := [(5, .int (v5 + 0)), (4, .int (v4 ||| ((1 : Int32) <<< (v6 &&& 31)))), (7, .int s0), (2, .int v2), (3, .int v3), (6, .int v6)]) dX11_firstFree_76 (by decide) rfl ?_
      refine pg_iinc (pc := 78) (i := 6) (j := 5) (x := v6) (v := v6 + 1) (ls' := [(6, .int (v6 + 1)), (5, .int (v5 + 0)), (4, .int (v4 ||| ((1 : Int32) <<< (v6 &&& 31)))), (7, .int s0), (2, .int v2), (3, .int v3)]) dX11_firstFree_78 rfl rfl (by decide) rfl ?_
      refine pg_goto (pc := 81) (tgt := 15) dX11_firstFree_81 (by decide) ?_
      refine pg_drop (ks := [4, 5, 2, 1, 0]) (ls' := [(2, .int v2), (3, .int v3), (4, .int (v4 ||| ((1 : Int32) <<< (v6 &&& 31)))), (5, .int (v5 + 0)), (6, .int (v6 + 1))]) rfl ?_
      exact k2 c0 c1
    · skip
      refine pg_iconst (pc := 70) (v := 1) dX11_firstFree_70 (by decide) ?_
      refine pg_goto (pc := 71) (tgt := 75) dX11_firstFree_71 (by decide) ?_
      refine pg_iadd (pc := 75) dX11_firstFree_75 ?_
      refine pg_istore (pc := 76) (i := 5) (ls' := [(5, .int (v5 + 1)), (4, .int (v4 ||| ((1 : Int32) <<< (v6 &&& 31)))), (7, .int s0), (2, .int v2), (3, .int v3), (6, .int v6)]) dX11_firstFree_76 (by decide) rfl ?_
      refine pg_iinc (pc := 78) (i := 6) (j := 5) (x := v6) (v := v6 + 1) (ls' := [(6, .int (v6 + 1)), (5, .int (v5 + 1)), (4, .int (v4 ||| ((1 : Int32) <<< (v6 &&& 31)))), (7, .int s0), (2, .int v2), (3, .int v3)]) dX11_firstFree_78 rfl rfl (by decide) rfl ?_
      refine pg_goto (pc := 81) (tgt := 15) dX11_firstFree_81 (by decide) ?_
      refine pg_drop (ks := [4, 5, 2, 1, 0]) (ls' := [(2, .int v2), (3, .int v3), (4, .int (v4 ||| ((1 : Int32) <<< (v6 &&& 31)))), (5, .int (v5 + 1)), (6, .int (v6 + 1))]) rfl ?_
      exact k3 c0 c1
theorem oX11_firstFree {d : Nat} {v1 : Int32} {v2 : Int32} (h : pg_At S Λ YX11_firstFree d 0 [(0, .ref 207), (1, .int v1), (2, .int v2)] [] M P) : pg_Ev S Λ YX11_firstFree d [.ref 207, .int v1, .int v2] M P := pg_Ev.of (by decide) (by first | decide | exact Nat.le_of_ble_eq_true rfl) h
theorem sX11_drawsCloth_0  {Q0 : Int32 → pg_M → Prop} {Q1 : Int32 → pg_M → Prop} {Q2 : Int32 → pg_M → Prop} {Q3 : Int32 → pg_M → Prop} {Q4 : Int32 → pg_M → Prop} {Q5 : Int32 → pg_M → Prop} {Q6 : Int32 → pg_M → Prop} {Q7 : Int32 → pg_M → Prop} {Q8 : Int32 → pg_M → Prop}
    (h0 : pg_isX11 Λ)
    (e0 : pg_Ev S Λ YX11_cloths d [.ref 207] M (fun r M' => ∃ x, r = some (.int x) ∧ Q0 x M'))
    (e1 : ∀ x1 M1, Q0 x1 M1 → pg_Ev S Λ YX11_draw d [.ref 207, .int x1] M1 (fun r M' => ∃ x, r = some (.int x) ∧ Q1 x M'))
    (e2 : ∀ x1 M1, Q0 x1 M1 → ∀ x2 M2, Q1 x2 M2 → pg_Ev S Λ YX11_isHung d [.ref 207, .int 1188, .int x2] M2 (fun r M' => ∃ x, r = some (.int x) ∧ Q2 x M'))
    (e3 : ∀ x1 M1, Q0 x1 M1 → ∀ x2 M2, Q1 x2 M2 → ∀ x3 M3, Q2 x3 M3 → (x3 = 0) → pg_Ev S Λ YX11_needs d [.ref 207, .int x2] M3 (fun r M' => ∃ x, r = some (.int x) ∧ Q3 x M'))
    (e4 : ∀ x1 M1, Q0 x1 M1 → ∀ x2 M2, Q1 x2 M2 → ∀ x3 M3, Q2 x3 M3 → (x3 = 0) → ∀ x4 M4, Q3 x4 M4 → pg_Ev S Λ YX11_firstFree d [.ref 207, .int 1188, .int x4] M4 (fun r M' => ∃ x, r = some (.int x) ∧ Q4 x M'))
    (e5 : ∀ x1 M1, Q0 x1 M1 → ∀ x2 M2, Q1 x2 M2 → ∀ x3 M3, Q2 x3 M3 → (x3 = 0) → ∀ x4 M4, Q3 x4 M4 → ∀ x5 M5, Q4 x5 M5 → pg_Ev S Λ YX11_bits d [.int x5] M5 (fun r M' => ∃ x, r = some (.int x) ∧ Q5 x M'))
    (e6 : ∀ x1 M1, Q0 x1 M1 → ∀ x2 M2, Q1 x2 M2 → ∀ x3 M3, Q2 x3 M3 → (x3 = 0) → ∀ x4 M4, Q3 x4 M4 → ∀ x5 M5, Q4 x5 M5 → ∀ x6 M6, Q5 x6 M6 → pg_Ev S Λ YX11_needs d [.ref 207, .int x2] M6 (fun r M' => ∃ x, r = some (.int x) ∧ Q6 x M'))
    (k0 : ∀ x1 M1, Q0 x1 M1 → ∀ x2 M2, Q1 x2 M2 → ∀ x3 M3, Q2 x3 M3 → (x3 = 0) → ∀ x4 M4, Q3 x4 M4 → ∀ x5 M5, Q4 x5 M5 → ∀ x6 M6, Q5 x6 M6 → ∀ x7 M7, Q6 x7 M7 → (¬ x6 = x7) → P none M7)
    (e7 : ∀ x1 M1, Q0 x1 M1 → ∀ x2 M2, Q1 x2 M2 → ∀ x3 M3, Q2 x3 M3 → (x3 = 0) → ∀ x4 M4, Q3 x4 M4 → ∀ x5 M5, Q4 x5 M5 → ∀ x6 M6, Q5 x6 M6 → ∀ x7 M7, Q6 x7 M7 → (x6 = x7) → pg_Ev S Λ YX11_mayHang d [.ref 207, .int 1188, .int x2, .int x5] M7 (fun r M' => ∃ x, r = some (.int x) ∧ Q7 x M'))
    (k1 : ∀ x1 M1, Q0 x1 M1 → ∀ x2 M2, Q1 x2 M2 → ∀ x3 M3, Q2 x3 M3 → (x3 = 0) → ∀ x4 M4, Q3 x4 M4 → ∀ x5 M5, Q4 x5 M5 → ∀ x6 M6, Q5 x6 M6 → ∀ x7 M7, Q6 x7 M7 → (x6 = x7) → ∀ x8 M8, Q7 x8 M8 → (x8 = 0) → P none M8)
    (b0 : ∀ x1 M1, Q0 x1 M1 → ∀ x2 M2, Q1 x2 M2 → ∀ x3 M3, Q2 x3 M3 → (x3 = 0) → ∀ x4 M4, Q3 x4 M4 → ∀ x5 M5, Q4 x5 M5 → ∀ x6 M6, Q5 x6 M6 → ∀ x7 M7, Q6 x7 M7 → (x6 = x7) → ∀ x8 M8, Q7 x8 M8 → (¬ x8 = 0) → vp_in (1202 + x2) 1242)
    (k2 : ∀ x1 M1, Q0 x1 M1 → ∀ x2 M2, Q1 x2 M2 → ∀ x3 M3, Q2 x3 M3 → (x3 = 0) → ∀ x4 M4, Q3 x4 M4 → ∀ x5 M5, Q4 x5 M5 → ∀ x6 M6, Q5 x6 M6 → ∀ x7 M7, Q6 x7 M7 → (x6 = x7) → ∀ x8 M8, Q7 x8 M8 → (¬ x8 = 0) → P none (pg_si M8 221 (1202 + x2).toNatClampNeg x5))
    (e8 : ∀ x1 M1, Q0 x1 M1 → ∀ x2 M2, Q1 x2 M2 → ∀ x3 M3, Q2 x3 M3 → (¬ x3 = 0) → pg_Ev S Λ YX11_draw d [.ref 207, .int 4] M3 (fun r M' => ∃ x, r = some (.int x) ∧ Q8 x M'))
    (b1 : ∀ x1 M1, Q0 x1 M1 → ∀ x2 M2, Q1 x2 M2 → ∀ x3 M3, Q2 x3 M3 → (¬ x3 = 0) → ∀ x9 M9, Q8 x9 M9 → (¬ x9 = 0) → vp_in (1202 + x2) 1242)
    (k3 : ∀ x1 M1, Q0 x1 M1 → ∀ x2 M2, Q1 x2 M2 → ∀ x3 M3, Q2 x3 M3 → (¬ x3 = 0) → ∀ x9 M9, Q8 x9 M9 → (¬ x9 = 0) → P none (pg_si M9 221 (1202 + x2).toNatClampNeg (M9.1 221 (1202 + x2).toNatClampNeg)))
    (b2 : ∀ x1 M1, Q0 x1 M1 → ∀ x2 M2, Q1 x2 M2 → ∀ x3 M3, Q2 x3 M3 → (¬ x3 = 0) → ∀ x9 M9, Q8 x9 M9 → (x9 = 0) → vp_in (1202 + x2) 1242)
    (k4 : ∀ x1 M1, Q0 x1 M1 → ∀ x2 M2, Q1 x2 M2 → ∀ x3 M3, Q2 x3 M3 → (¬ x3 = 0) → ∀ x9 M9, Q8 x9 M9 → (x9 = 0) → P none (pg_si M9 221 (1202 + x2).toNatClampNeg 0)) :
    pg_At S Λ YX11_drawsCloth (d + 1) 0 [(0, .ref 207)] [] M P := by
  refine pg_aload_n (pc := 0) (i := 0) (j := 0) (x := 207) dX11_drawsCloth_0 rfl rfl ?_
  refine pg_aload_n (pc := 1) (i := 0) (j := 0) (x := 207) dX11_drawsCloth_1 rfl rfl ?_
  refine pg_callV (pc := 2) (As := []) (st := [.ref 207]) okX11_cloths lkX11_292 rfl h0.1 rfl (Nat.le_refl _) (Nat.le_of_ble_eq_true rfl) e0 dX11_drawsCloth_2 (fun r1 M1 w1 => ?_)
  obtain ⟨x1, rfl, w1⟩ := w1
  refine pg_callV (pc := 5) (As := [.int x1]) (st := []) okX11_draw lkX11_443 rfl h0.1 rfl (Nat.le_refl _) (Nat.le_of_ble_eq_true rfl) (e1 x1 M1 w1) dX11_drawsCloth_5 (fun r2 M2 w2 => ?_)
  obtain ⟨x2, rfl, w2⟩ := w2
  refine pg_istore_n (pc := 8) (i := 1) (ls' := [(1, .int x2), (0, .ref 207)]) dX11_drawsCloth_8 rfl (by decide) rfl ?_
  refine pg_aload_n (pc := 9) (i := 0) (j := 1) (x := 207) dX11_drawsCloth_9 rfl rfl ?_
  refine pg_sipush (pc := 10) (v := 1188) dX11_drawsCloth_10 (by decide) ?_
  refine pg_iload_n (pc := 13) (i := 1) (j := 0) (x := x2) dX11_drawsCloth_13 rfl rfl ?_
  refine pg_callV (pc := 14) (As := [.int 1188, .int x2]) (st := []) okX11_isHung lkX11_304 rfl h0.1 rfl (Nat.le_refl _) (Nat.le_of_ble_eq_true rfl) (e2 x1 M1 w1 x2 M2 w2) dX11_drawsCloth_14 (fun r3 M3 w3 => ?_)
  obtain ⟨x3, rfl, w3⟩ := w3
  refine pg_if_eq (pc := 17) (tgt := 53) dX11_drawsCloth_17 (by decide) (fun c0 => ?_) (fun c0 => ?_)
  · skip
    refine pg_aload_n (pc := 53) (i := 0) (j := 1) (x := 207) dX11_drawsCloth_53 rfl rfl ?_
    refine pg_sipush (pc := 54) (v := 1188) dX11_drawsCloth_54 (by decide) ?_
    refine pg_aload_n (pc := 57) (i := 0) (j := 1) (x := 207) dX11_drawsCloth_57 rfl rfl ?_
    refine pg_iload_n (pc := 58) (i := 1) (j := 0) (x := x2) dX11_drawsCloth_58 rfl rfl ?_
    refine pg_callV (pc := 59) (As := [.int x2]) (st := [.int 1188, .ref 207]) okX11_needs lkX11_301 rfl h0.1 rfl (Nat.le_refl _) (Nat.le_of_ble_eq_true rfl) (e3 x1 M1 w1 x2 M2 w2 x3 M3 w3 c0) dX11_drawsCloth_59 (fun r4 M4 w4 => ?_)
    obtain ⟨x4, rfl, w4⟩ := w4
    refine pg_callV (pc := 62) (As := [.int 1188, .int x4]) (st := []) okX11_firstFree lkX11_446 rfl h0.1 rfl (Nat.le_refl _) (Nat.le_of_ble_eq_true rfl) (e4 x1 M1 w1 x2 M2 w2 x3 M3 w3 c0 x4 M4 w4) dX11_drawsCloth_62 (fun r5 M5 w5 => ?_)
    obtain ⟨x5, rfl, w5⟩ := w5
    refine pg_istore_n (pc := 65) (i := 2) (ls' := [(2, .int x5), (1, .int x2), (0, .ref 207)]) dX11_drawsCloth_65 rfl (by decide) rfl ?_
    refine pg_iload_n (pc := 66) (i := 2) (j := 0) (x := x5) dX11_drawsCloth_66 rfl rfl ?_
    refine pg_callS (pc := 67) (As := [.int x5]) (st := []) okX11_bits lkX11_298 rfl (Nat.le_refl _) (Nat.le_of_ble_eq_true rfl) (e5 x1 M1 w1 x2 M2 w2 x3 M3 w3 c0 x4 M4 w4 x5 M5 w5) dX11_drawsCloth_67 (fun r6 M6 w6 => ?_)
    obtain ⟨x6, rfl, w6⟩ := w6
    refine pg_aload_n (pc := 70) (i := 0) (j := 2) (x := 207) dX11_drawsCloth_70 rfl rfl ?_
    refine pg_iload_n (pc := 71) (i := 1) (j := 1) (x := x2) dX11_drawsCloth_71 rfl rfl ?_
    refine pg_callV (pc := 72) (As := [.int x2]) (st := [.int x6]) okX11_needs lkX11_301 rfl h0.1 rfl (Nat.le_refl _) (Nat.le_of_ble_eq_true rfl) (e6 x1 M1 w1 x2 M2 w2 x3 M3 w3 c0 x4 M4 w4 x5 M5 w5 x6 M6 w6) dX11_drawsCloth_72 (fun r7 M7 w7 => ?_)
    obtain ⟨x7, rfl, w7⟩ := w7
    refine pg_icmp_ne (pc := 75) (tgt := 101) dX11_drawsCloth_75 (by decide) (fun c1 => ?_) (fun c1 => ?_)
    · skip
      exact pg_vret (pc := 101) rfl dX11_drawsCloth_101 (k0 x1 M1 w1 x2 M2 w2 x3 M3 w3 c0 x4 M4 w4 x5 M5 w5 x6 M6 w6 x7 M7 w7 c1)
    · skip
      refine pg_aload_n (pc := 78) (i := 0) (j := 2) (x := 207) dX11_drawsCloth_78 rfl rfl ?_
      refine pg_sipush (pc := 79) (v := 1188) dX11_drawsCloth_79 (by decide) ?_
      refine pg_iload_n (pc := 82) (i := 1) (j := 1) (x := x2) dX11_drawsCloth_82 rfl rfl ?_
      refine pg_iload_n (pc := 83) (i := 2) (j := 0) (x := x5) dX11_drawsCloth_83 rfl rfl ?_
      refine pg_callV (pc := 84) (As := [.int 1188, .int x2, .int x5]) (st := []) okX11_mayHang lkX11_367 rfl h0.1 rfl (Nat.le_refl _) (Nat.le_of_ble_eq_true rfl) (e7 x1 M1 w1 x2 M2 w2 x3 M3 w3 c0 x4 M4 w4 x5 M5 w5 x6 M6 w6 x7 M7 w7 c1) dX11_drawsCloth_84 (fun r8 M8 w8 => ?_)
      obtain ⟨x8, rfl, w8⟩ := w8
      refine pg_if_eq (pc := 87) (tgt := 101) dX11_drawsCloth_87 (by decide) (fun c2 => ?_) (fun c2 => ?_)
      · skip
        exact pg_vret (pc := 101) rfl dX11_drawsCloth_101 (k1 x1 M1 w1 x2 M2 w2 x3 M3 w3 c0 x4 M4 w4 x5 M5 w5 x6 M6 w6 x7 M7 w7 c1 x8 M8 w8 c2)
      · skip
        refine pg_aload_n (pc := 90) (i := 0) (j := 2) (x := 207) dX11_drawsCloth_90 rfl rfl ?_
        refine gfX11_113 (pc := 91) rfl h0 dX11_drawsCloth_91 ?_
        refine pg_sipush (pc := 94) (v := 1202) dX11_drawsCloth_94 (by decide) ?_
        refine pg_iload_n (pc := 97) (i := 1) (j := 1) (x := x2) dX11_drawsCloth_97 rfl rfl ?_
        refine pg_iadd (pc := 98) dX11_drawsCloth_98 ?_
        refine pg_iload_n (pc := 99) (i := 2) (j := 0) (x := x5) dX11_drawsCloth_99 rfl rfl ?_
        refine pg_iast (pc := 100) h0.2.2.2.2.2.2.2.2.2.2.2.2.2.2.1 (b0 x1 M1 w1 x2 M2 w2 x3 M3 w3 c0 x4 M4 w4 x5 M5 w5 x6 M6 w6 x7 M7 w7 c1 x8 M8 w8 c2) dX11_drawsCloth_100 ?_
        exact pg_vret (pc := 101) rfl dX11_drawsCloth_101 (k2 x1 M1 w1 x2 M2 w2 x3 M3 w3 c0 x4 M4 w4 x5 M5 w5 x6 M6 w6 x7 M7 w7 c1 x8 M8 w8 c2)
  · skip
    refine pg_aload_n (pc := 20) (i := 0) (j := 1) (x := 207) dX11_drawsCloth_20 rfl rfl ?_
    refine gfX11_113 (pc := 21) rfl h0 dX11_drawsCloth_21 ?_
    refine pg_sipush (pc := 24) (v := 1202) dX11_drawsCloth_24 (by decide) ?_
    refine pg_iload_n (pc := 27) (i := 1) (j := 0) (x := x2) dX11_drawsCloth_27 rfl rfl ?_
    refine pg_iadd (pc := 28) dX11_drawsCloth_28 ?_
    refine pg_aload_n (pc := 29) (i := 0) (j := 1) (x := 207) dX11_drawsCloth_29 rfl rfl ?_
    refine pg_iconst (pc := 30) (v := 4) dX11_drawsCloth_30 (by decide) ?_
    refine pg_callV (pc := 31) (As := [.int 4]) (st := [.int (1202 + x2), .ref 221]) okX11_draw lkX11_443 rfl h0.1 rfl (Nat.le_refl _) (Nat.le_of_ble_eq_true rfl) (e8 x1 M1 w1 x2 M2 w2 x3 M3 w3 c0) dX11_drawsCloth_31 (fun r9 M9 w9 => ?_)
    obtain ⟨x9, rfl, w9⟩ := w9
    refine pg_if_ne (pc := 34) (tgt := 41) dX11_drawsCloth_34 (by decide) (fun c1 => ?_) (fun c1 => ?_)
    · skip
      refine pg_aload_n (pc := 41) (i := 0) (j := 1) (x := 207) dX11_drawsCloth_41 rfl rfl ?_
      refine gfX11_113 (pc := 42) rfl h0 dX11_drawsCloth_42 ?_
      refine pg_sipush (pc := 45) (v := 1202) dX11_drawsCloth_45 (by decide) ?_
      refine pg_iload_n (pc := 48) (i := 1) (j := 0) (x := x2) dX11_drawsCloth_48 rfl rfl ?_
      refine pg_iadd (pc := 49) dX11_drawsCloth_49 ?_
      refine pg_iald (pc := 50) h0.2.2.2.2.2.2.2.2.2.2.2.2.2.2.1 (b1 x1 M1 w1 x2 M2 w2 x3 M3 w3 c0 x9 M9 w9 c1) dX11_drawsCloth_50 ?_
      refine pg_iast (pc := 51) h0.2.2.2.2.2.2.2.2.2.2.2.2.2.2.1 (b1 x1 M1 w1 x2 M2 w2 x3 M3 w3 c0 x9 M9 w9 c1) dX11_drawsCloth_51 ?_
      exact pg_vret (pc := 52) rfl dX11_drawsCloth_52 (k3 x1 M1 w1 x2 M2 w2 x3 M3 w3 c0 x9 M9 w9 c1)
    · skip
      refine pg_iconst (pc := 37) (v := 0) dX11_drawsCloth_37 (by decide) ?_
      refine pg_goto (pc := 38) (tgt := 51) dX11_drawsCloth_38 (by decide) ?_
      refine pg_iast (pc := 51) h0.2.2.2.2.2.2.2.2.2.2.2.2.2.2.1 (b2 x1 M1 w1 x2 M2 w2 x3 M3 w3 c0 x9 M9 w9 c1) dX11_drawsCloth_51 ?_
      exact pg_vret (pc := 52) rfl dX11_drawsCloth_52 (k4 x1 M1 w1 x2 M2 w2 x3 M3 w3 c0 x9 M9 w9 c1)
theorem oX11_drawsCloth {d : Nat}  (h : pg_At S Λ YX11_drawsCloth d 0 [(0, .ref 207)] [] M P) : pg_Ev S Λ YX11_drawsCloth d [.ref 207] M P := pg_Ev.of (by decide) (by first | decide | exact Nat.le_of_ble_eq_true rfl) h
theorem sX11_decades_0 {v1 : Int32} {v2 : Int32} {v3 : Int32} {Q0 : Int32 → pg_M → Prop} {Q1 : Int32 → pg_M → Prop} {Q2 : Int32 → pg_M → Prop} {Q3 : pg_M → Prop}
    (h0 : pg_isX11 Λ)
    (e0 : pg_Ev S Λ YX11_within d [.int v1, .int 0, .int 9999] (pg_si M 207 0 0) (fun r M' => ∃ x, r = some (.int x) ∧ Q0 x M'))
    (k0 : ∀ x1 M1, Q0 x1 M1 → (x1 = 0) → P (some (.int (-1))) M1)
    (e1 : ∀ x1 M1, Q0 x1 M1 → (¬ x1 = 0) → pg_Ev S Λ YX11_within d [.int v2, .int 1, .int 60] M1 (fun r M' => ∃ x, r = some (.int x) ∧ Q1 x M'))
    (k1 : ∀ x1 M1, Q0 x1 M1 → (¬ x1 = 0) → ∀ x2 M2, Q1 x2 M2 → (x2 = 0) → P (some (.int (-1))) M2)
    (e2 : ∀ x1 M1, Q0 x1 M1 → (¬ x1 = 0) → ∀ x2 M2, Q1 x2 M2 → (¬ x2 = 0) → pg_Ev S Λ YX11_within d [.int v3, .int 0, .int 2] M2 (fun r M' => ∃ x, r = some (.int x) ∧ Q2 x M'))
    (e3 : ∀ x1 M1, Q0 x1 M1 → (¬ x1 = 0) → ∀ x2 M2, Q1 x2 M2 → (¬ x2 = 0) → ∀ x3 M3, Q2 x3 M3 → (¬ x3 = 0) → pg_Ev S Λ YX11_copies d [.ref 207, .int 0, .int 1188, .int 28] M3 (fun r M' => r = none ∧ Q3 M'))
    (k2 : ∀ x1 M1, Q0 x1 M1 → (¬ x1 = 0) → ∀ x2 M2, Q1 x2 M2 → (¬ x2 = 0) → ∀ x3 M3, Q2 x3 M3 → (¬ x3 = 0) → ∀ M4, Q3 M4 → pg_At S Λ YX11_decades (d + 1) 62 [(0, .ref 207), (2, .int v2), (3, .int v3), (4, .int 0), (5, .int 0), (6, .int 0)] [] (pg_sj M4 207 37 v1.toInt64) P)
    (k3 : ∀ x1 M1, Q0 x1 M1 → (¬ x1 = 0) → ∀ x2 M2, Q1 x2 M2 → (¬ x2 = 0) → ∀ x3 M3, Q2 x3 M3 → (x3 = 0) → P (some (.int (-1))) M3) :
    pg_At S Λ YX11_decades (d + 1) 0 [(0, .ref 207), (1, .int v1), (2, .int v2), (3, .int v3)] [] M P := by
  refine pg_aload_n (pc := 0) (i := 0) (j := 0) (x := 207) dX11_decades_0 rfl rfl ?_
  refine pg_iconst (pc := 1) (v := 0) dX11_decades_1 (by decide) ?_
  refine pfX11_1 (pc := 2) rfl h0 dX11_decades_2 ?_
  refine pg_iload_n (pc := 5) (i := 1) (j := 1) (x := v1) dX11_decades_5 rfl rfl ?_
  refine pg_iconst (pc := 6) (v := 0) dX11_decades_6 (by decide) ?_
  refine pg_sipush (pc := 7) (v := 9999) dX11_decades_7 (by decide) ?_
  refine pg_callS (pc := 10) (As := [.int v1, .int 0, .int 9999]) (st := []) okX11_within lkX11_349 rfl (Nat.le_refl _) (Nat.le_of_ble_eq_true rfl) e0 dX11_decades_10 (fun r1 M1 w1 => ?_)
  obtain ⟨x1, rfl, w1⟩ := w1
  refine pg_if_eq (pc := 13) (tgt := 35) dX11_decades_13 (by decide) (fun c0 => ?_) (fun c0 => ?_)
  · skip
    refine pg_iconst (pc := 35) (v := (-1)) dX11_decades_35 (by decide) ?_
    exact pg_iret (pc := 36) rfl dX11_decades_36 (k0 x1 M1 w1 c0)
  · skip
    refine pg_iload_n (pc := 16) (i := 2) (j := 2) (x := v2) dX11_decades_16 rfl rfl ?_
    refine pg_iconst (pc := 17) (v := 1) dX11_decades_17 (by decide) ?_
    refine pg_bipush (pc := 18) (v := 60) dX11_decades_18 (by decide) ?_
    refine pg_callS (pc := 20) (As := [.int v2, .int 1, .int 60]) (st := []) okX11_within lkX11_349 rfl (Nat.le_refl _) (Nat.le_of_ble_eq_true rfl) (e1 x1 M1 w1 c0) dX11_decades_20 (fun r2 M2 w2 => ?_)
    obtain ⟨x2, rfl, w2⟩ := w2
    refine pg_if_eq (pc := 23) (tgt := 35) dX11_decades_23 (by decide) (fun c1 => ?_) (fun c1 => ?_)
    · skip
      refine pg_iconst (pc := 35) (v := (-1)) dX11_decades_35 (by decide) ?_
      exact pg_iret (pc := 36) rfl dX11_decades_36 (k1 x1 M1 w1 c0 x2 M2 w2 c1)
    · skip
      refine pg_iload_n (pc := 26) (i := 3) (j := 3) (x := v3) dX11_decades_26 rfl rfl ?_
      refine pg_iconst (pc := 27) (v := 0) dX11_decades_27 (by decide) ?_
      refine pg_iconst (pc := 28) (v := 2) dX11_decades_28 (by decide) ?_
      refine pg_callS (pc := 29) (As := [.int v3, .int 0, .int 2]) (st := []) okX11_within lkX11_349 rfl (Nat.le_refl _) (Nat.le_of_ble_eq_true rfl) (e2 x1 M1 w1 c0 x2 M2 w2 c1) dX11_decades_29 (fun r3 M3 w3 => ?_)
      obtain ⟨x3, rfl, w3⟩ := w3
      refine pg_if_ne (pc := 32) (tgt := 37) dX11_decades_32 (by decide) (fun c2 => ?_) (fun c2 => ?_)
      · skip
        refine pg_aload_n (pc := 37) (i := 0) (j := 0) (x := 207) dX11_decades_37 rfl rfl ?_
        refine pg_iconst (pc := 38) (v := 0) dX11_decades_38 (by decide) ?_
        refine pg_sipush (pc := 39) (v := 1188) dX11_decades_39 (by decide) ?_
        refine pg_bipush (pc := 42) (v := 28) dX11_decades_42 (by decide) ?_
        refine pg_callV (pc := 44) (As := [.int 0, .int 1188, .int 28]) (st := []) okX11_copies lkX11_288 rfl h0.1 rfl (Nat.le_refl _) (Nat.le_of_ble_eq_true rfl) (e3 x1 M1 w1 c0 x2 M2 w2 c1 x3 M3 w3 c2) dX11_decades_44 (fun r4 M4 w4 => ?_)
        obtain ⟨rfl, w4⟩ := w4
        refine pg_aload_n (pc := 47) (i := 0) (j := 0) (x := 207) dX11_decades_47 rfl rfl ?_
        refine pg_iload_n (pc := 48) (i := 1) (j := 1) (x := v1) dX11_decades_48 rfl rfl ?_
        refine pg_i2l (pc := 49) dX11_decades_49 rfl ?_
        refine pfX11_431 (pc := 50) rfl h0 dX11_decades_50 ?_
        refine pg_iconst (pc := 53) (v := 0) dX11_decades_53 (by decide) ?_
        refine pg_istore (pc := 54) (i := 4) (ls' := [(4, .int 0), (0, .ref 207), (1, .int v1), (2, .int v2), (3, .int v3)]) dX11_decades_54 (by decide) rfl ?_
        refine pg_iconst (pc := 56) (v := 0) dX11_decades_56 (by decide) ?_
        refine pg_istore (pc := 57) (i := 5) (ls' := [(5, .int 0), (4, .int 0), (0, .ref 207), (1, .int v1), (2, .int v2), (3, .int v3)]) dX11_decades_57 (by decide) rfl ?_
        refine pg_iconst (pc := 59) (v := 0) dX11_decades_59 (by decide) ?_
        refine pg_istore (pc := 60) (i := 6) (ls' := [(6, .int 0), (5, .int 0), (4, .int 0), (0, .ref 207), (1, .int v1), (2, .int v2), (3, .int v3)]) dX11_decades_60 (by decide) rfl ?_
        refine pg_drop (ks := [3, 5, 6, 2, 1, 0]) (ls' := [(0, .ref 207), (2, .int v2), (3, .int v3), (4, .int 0), (5, .int 0), (6, .int 0)]) rfl ?_
        exact k2 x1 M1 w1 c0 x2 M2 w2 c1 x3 M3 w3 c2 M4 w4
      · skip
        refine pg_iconst (pc := 35) (v := (-1)) dX11_decades_35 (by decide) ?_
        exact pg_iret (pc := 36) rfl dX11_decades_36 (k3 x1 M1 w1 c0 x2 M2 w2 c1 x3 M3 w3 c2)
theorem sX11_decades_62 {v2 : Int32} {v3 : Int32} {v4 : Int32} {v5 : Int32} {v6 : Int32} {Q0 : Int32 → pg_M → Prop} {Q1 : Int32 → pg_M → Prop} {Q2 : Int32 → pg_M → Prop} {Q3 : Int32 → pg_M → Prop} {Q4 : Int32 → pg_M → Prop} {Q5 : Int32 → pg_M → Prop} {Q6 : Int32 → pg_M → Prop} {Q7 : Int32 → pg_M → Prop} {Q8 : Int32 → pg_M → Prop} {Q9 : pg_M → Prop} {Q10 : Int32 → pg_M → Prop} {Q11 : Int32 → pg_M → Prop} {Q12 : Int32 → pg_M → Prop} {Q13 : Int32 → pg_M → Prop} {Q14 : Int32 → pg_M → Prop} {Q15 : Int32 → pg_M → Prop} {Q16 : Int32 → pg_M → Prop}
    (h0 : pg_isX11 Λ)
    (e0 : (v2 ≤ v6) → (¬ v3 = 0) → (¬ v3 = 1) → pg_Ev S Λ YX11_gripsOf d [.ref 207, .int 1188, .int 255] M (fun r M' => ∃ x, r = some (.int x) ∧ Q0 x M'))
    (k0 : (v2 ≤ v6) → (¬ v3 = 0) → (¬ v3 = 1) → ∀ x1 M1, Q0 x1 M1 → P (some (.int x1)) M1)
    (k1 : (v2 ≤ v6) → (¬ v3 = 0) → (v3 = 1) → P (some (.int v5)) M)
    (k2 : (v2 ≤ v6) → (v3 = 0) → P (some (.int v4)) M)
    (e1 : (¬ v2 ≤ v6) → pg_Ev S Λ YX11_cloths d [.ref 207] M (fun r M' => ∃ x, r = some (.int x) ∧ Q1 x M'))
    (e2 : (¬ v2 ≤ v6) → ∀ x2 M2, Q1 x2 M2 → (x2 ≤ 0) → pg_Ev S Λ YX11_draw d [.ref 207, .int 10] M2 (fun r M' => ∃ x, r = some (.int x) ∧ Q2 x M'))
    (e3 : (¬ v2 ≤ v6) → ∀ x2 M2, Q1 x2 M2 → (x2 ≤ 0) → ∀ x3 M3, Q2 x3 M3 → ((M3.1 213 (4 : Int32).toNatClampNeg) ≤ x3) → pg_Ev S Λ YX11_passes d [.ref 207, .int 1188, .int 0] M3 (fun r M' => ∃ x, r = some (.int x) ∧ Q3 x M'))
    (e4 : (¬ v2 ≤ v6) → ∀ x2 M2, Q1 x2 M2 → (x2 ≤ 0) → ∀ x3 M3, Q2 x3 M3 → ((M3.1 213 (4 : Int32).toNatClampNeg) ≤ x3) → ∀ x4 M4, Q3 x4 M4 → pg_Ev S Λ YX11_lawsOf d [.ref 207, .int 1188] M4 (fun r M' => ∃ x, r = some (.int x) ∧ Q4 x M'))
    (e5 : (¬ v2 ≤ v6) → ∀ x2 M2, Q1 x2 M2 → (x2 ≤ 0) → ∀ x3 M3, Q2 x3 M3 → ((M3.1 213 (4 : Int32).toNatClampNeg) ≤ x3) → ∀ x4 M4, Q3 x4 M4 → ∀ x5 M5, Q4 x5 M5 → pg_Ev S Λ YX11_bits d [.int x5] M5 (fun r M' => ∃ x, r = some (.int x) ∧ Q5 x M'))
    (k3 : (¬ v2 ≤ v6) → ∀ x2 M2, Q1 x2 M2 → (x2 ≤ 0) → ∀ x3 M3, Q2 x3 M3 → ((M3.1 213 (4 : Int32).toNatClampNeg) ≤ x3) → ∀ x4 M4, Q3 x4 M4 → ∀ x5 M5, Q4 x5 M5 → ∀ x6 M6, Q5 x6 M6 → pg_At S Λ YX11_decades (d + 1) 62 [(0, .ref 207), (2, .int v2), (3, .int v3), (4, .int (v4 + x6)), (5, .int (v5 + x4)), (6, .int (v6 + 1))] [] M6 P)
    (e6 : (¬ v2 ≤ v6) → ∀ x2 M2, Q1 x2 M2 → (x2 ≤ 0) → ∀ x3 M3, Q2 x3 M3 → (¬ (M3.1 213 (4 : Int32).toNatClampNeg) ≤ x3) → pg_Ev S Λ YX11_passes d [.ref 207, .int 1188, .int 1] M3 (fun r M' => ∃ x, r = some (.int x) ∧ Q6 x M'))
    (e7 : (¬ v2 ≤ v6) → ∀ x2 M2, Q1 x2 M2 → (x2 ≤ 0) → ∀ x3 M3, Q2 x3 M3 → (¬ (M3.1 213 (4 : Int32).toNatClampNeg) ≤ x3) → ∀ x7 M7, Q6 x7 M7 → pg_Ev S Λ YX11_lawsOf d [.ref 207, .int 1188] M7 (fun r M' => ∃ x, r = some (.int x) ∧ Q7 x M'))
    (e8 : (¬ v2 ≤ v6) → ∀ x2 M2, Q1 x2 M2 → (x2 ≤ 0) → ∀ x3 M3, Q2 x3 M3 → (¬ (M3.1 213 (4 : Int32).toNatClampNeg) ≤ x3) → ∀ x7 M7, Q6 x7 M7 → ∀ x8 M8, Q7 x8 M8 → pg_Ev S Λ YX11_bits d [.int x8] M8 (fun r M' => ∃ x, r = some (.int x) ∧ Q8 x M'))
    (k4 : (¬ v2 ≤ v6) → ∀ x2 M2, Q1 x2 M2 → (x2 ≤ 0) → ∀ x3 M3, Q2 x3 M3 → (¬ (M3.1 213 (4 : Int32).toNatClampNeg) ≤ x3) → ∀ x7 M7, Q6 x7 M7 → ∀ x8 M8, Q7 x8 M8 → ∀ x9 M9, Q8 x9 M9 → pg_At S Λ YX11_decades (d + 1) 62 [(0, .ref 207), (2, .int v2), (3, .int v3), (4, .int (v4 + x9)), (5, .int (v5 + x7)), (6, .int (v6 + 1))] [] M9 P)
    (e9 : (¬ v2 ≤ v6) → ∀ x2 M2, Q1 x2 M2 → (¬ x2 ≤ 0) → pg_Ev S Λ YX11_drawsCloth d [.ref 207] M2 (fun r M' => r = none ∧ Q9 M'))
    (e10 : (¬ v2 ≤ v6) → ∀ x2 M2, Q1 x2 M2 → (¬ x2 ≤ 0) → ∀ M10, Q9 M10 → pg_Ev S Λ YX11_draw d [.ref 207, .int 10] M10 (fun r M' => ∃ x, r = some (.int x) ∧ Q10 x M'))
    (e11 : (¬ v2 ≤ v6) → ∀ x2 M2, Q1 x2 M2 → (¬ x2 ≤ 0) → ∀ M10, Q9 M10 → ∀ x11 M11, Q10 x11 M11 → ((M11.1 213 (4 : Int32).toNatClampNeg) ≤ x11) → pg_Ev S Λ YX11_passes d [.ref 207, .int 1188, .int 0] M11 (fun r M' => ∃ x, r = some (.int x) ∧ Q11 x M'))
    (e12 : (¬ v2 ≤ v6) → ∀ x2 M2, Q1 x2 M2 → (¬ x2 ≤ 0) → ∀ M10, Q9 M10 → ∀ x11 M11, Q10 x11 M11 → ((M11.1 213 (4 : Int32).toNatClampNeg) ≤ x11) → ∀ x12 M12, Q11 x12 M12 → pg_Ev S Λ YX11_lawsOf d [.ref 207, .int 1188] M12 (fun r M' => ∃ x, r = some (.int x) ∧ Q12 x M'))
    (e13 : (¬ v2 ≤ v6) → ∀ x2 M2, Q1 x2 M2 → (¬ x2 ≤ 0) → ∀ M10, Q9 M10 → ∀ x11 M11, Q10 x11 M11 → ((M11.1 213 (4 : Int32).toNatClampNeg) ≤ x11) → ∀ x12 M12, Q11 x12 M12 → ∀ x13 M13, Q12 x13 M13 → pg_Ev S Λ YX11_bits d [.int x13] M13 (fun r M' => ∃ x, r = some (.int x) ∧ Q13 x M'))
    (k5 : (¬ v2 ≤ v6) → ∀ x2 M2, Q1 x2 M2 → (¬ x2 ≤ 0) → ∀ M10, Q9 M10 → ∀ x11 M11, Q10 x11 M11 → ((M11.1 213 (4 : Int32).toNatClampNeg) ≤ x11) → ∀ x12 M12, Q11 x12 M12 → ∀ x13 M13, Q12 x13 M13 → ∀ x14 M14, Q13 x14 M14 → pg_At S Λ YX11_decades (d + 1) 62 [(0, .ref 207), (2, .int v2), (3, .int v3), (4, .int (v4 + x14)), (5, .int (v5 + x12)), (6, .int (v6 + 1))] [] M14 P)
    (e14 : (¬ v2 ≤ v6) → ∀ x2 M2, Q1 x2 M2 → (¬ x2 ≤ 0) → ∀ M10, Q9 M10 → ∀ x11 M11, Q10 x11 M11 → (¬ (M11.1 213 (4 : Int32).toNatClampNeg) ≤ x11) → pg_Ev S Λ YX11_passes d [.ref 207, .int 1188, .int 1] M11 (fun r M' => ∃ x, r = some (.int x) ∧ Q14 x M'))
    (e15 : (¬ v2 ≤ v6) → ∀ x2 M2, Q1 x2 M2 → (¬ x2 ≤ 0) → ∀ M10, Q9 M10 → ∀ x11 M11, Q10 x11 M11 → (¬ (M11.1 213 (4 : Int32).toNatClampNeg) ≤ x11) → ∀ x15 M15, Q14 x15 M15 → pg_Ev S Λ YX11_lawsOf d [.ref 207, .int 1188] M15 (fun r M' => ∃ x, r = some (.int x) ∧ Q15 x M'))
    (e16 : (¬ v2 ≤ v6) → ∀ x2 M2, Q1 x2 M2 → (¬ x2 ≤ 0) → ∀ M10, Q9 M10 → ∀ x11 M11, Q10 x11 M11 → (¬ (M11.1 213 (4 : Int32).toNatClampNeg) ≤ x11) → ∀ x15 M15, Q14 x15 M15 → ∀ x16 M16, Q15 x16 M16 → pg_Ev S Λ YX11_bits d [.int x16] M16 (fun r M' => ∃ x, r = some (.int x) ∧ Q16 x M'))
    (k6 : (¬ v2 ≤ v6) → ∀ x2 M2, Q1 x2 M2 → (¬ x2 ≤ 0) → ∀ M10, Q9 M10 → ∀ x11 M11, Q10 x11 M11 → (¬ (M11.1 213 (4 : Int32).toNatClampNeg) ≤ x11) → ∀ x15 M15, Q14 x15 M15 → ∀ x16 M16, Q15 x16 M16 → ∀ x17 M17, Q16 x17 M17 → pg_At S Λ YX11_decades (d + 1) 62 [(0, .ref 207), (2, .int v2), (3, .int v3), (4, .int (v4 + x17)), (5, .int (v5 + x15)), (6, .int (v6 + 1))] [] M17 P) :
    pg_At S Λ YX11_decades (d + 1) 62 [(0, .ref 207), (2, .int v2), (3, .int v3), (4, .int v4), (5, .int v5), (6, .int v6)] [] M P := by
  refine pg_iload (pc := 62) (i := 6) (j := 5) (x := v6) dX11_decades_62 rfl ?_
  refine pg_iload_n (pc := 64) (i := 2) (j := 1) (x := v2) dX11_decades_64 rfl rfl ?_
  refine pg_icmp_ge (pc := 65) (tgt := 132) dX11_decades_65 (by decide) (fun c0 => ?_) (fun c0 => ?_)
  · skip
    refine pg_iload_n (pc := 132) (i := 3) (j := 2) (x := v3) dX11_decades_132 rfl rfl ?_
    refine pg_if_ne (pc := 133) (tgt := 141) dX11_decades_133 (by decide) (fun c1 => ?_) (fun c1 => ?_)
    · skip
      refine pg_iload_n (pc := 141) (i := 3) (j := 2) (x := v3) dX11_decades_141 rfl rfl ?_
      refine pg_iconst (pc := 142) (v := 1) dX11_decades_142 (by decide) ?_
      refine pg_icmp_ne (pc := 143) (tgt := 151) dX11_decades_143 (by decide) (fun c2 => ?_) (fun c2 => ?_)
      · skip
        refine pg_aload_n (pc := 151) (i := 0) (j := 0) (x := 207) dX11_decades_151 rfl rfl ?_
        refine pg_sipush (pc := 152) (v := 1188) dX11_decades_152 (by decide) ?_
        refine pg_sipush (pc := 155) (v := 255) dX11_decades_155 (by decide) ?_
        refine pg_callV (pc := 158) (As := [.int 1188, .int 255]) (st := []) okX11_gripsOf lkX11_320 rfl h0.1 rfl (Nat.le_refl _) (Nat.le_of_ble_eq_true rfl) (e0 c0 c1 c2) dX11_decades_158 (fun r1 M1 w1 => ?_)
        obtain ⟨x1, rfl, w1⟩ := w1
        exact pg_iret (pc := 161) rfl dX11_decades_161 (k0 c0 c1 c2 x1 M1 w1)
      · skip
        refine pg_iload (pc := 146) (i := 5) (j := 4) (x := v5) dX11_decades_146 rfl ?_
        refine pg_goto (pc := 148) (tgt := 161) dX11_decades_148 (by decide) ?_
        exact pg_iret (pc := 161) rfl dX11_decades_161 (k1 c0 c1 c2)
    · skip
      refine pg_iload (pc := 136) (i := 4) (j := 3) (x := v4) dX11_decades_136 rfl ?_
      refine pg_goto (pc := 138) (tgt := 161) dX11_decades_138 (by decide) ?_
      exact pg_iret (pc := 161) rfl dX11_decades_161 (k2 c0 c1)
  · skip
    refine pg_aload_n (pc := 68) (i := 0) (j := 0) (x := 207) dX11_decades_68 rfl rfl ?_
    refine pg_callV (pc := 69) (As := []) (st := []) okX11_cloths lkX11_292 rfl h0.1 rfl (Nat.le_refl _) (Nat.le_of_ble_eq_true rfl) (e1 c0) dX11_decades_69 (fun r2 M2 w2 => ?_)
    obtain ⟨x2, rfl, w2⟩ := w2
    refine pg_if_le (pc := 72) (tgt := 79) dX11_decades_72 (by decide) (fun c1 => ?_) (fun c1 => ?_)
    · skip
      refine pg_iload (pc := 79) (i := 5) (j := 4) (x := v5) dX11_decades_79 rfl ?_
      refine pg_aload_n (pc := 81) (i := 0) (j := 0) (x := 207) dX11_decades_81 rfl rfl ?_
      refine pg_sipush (pc := 82) (v := 1188) dX11_decades_82 (by decide) ?_
      refine pg_aload_n (pc := 85) (i := 0) (j := 0) (x := 207) dX11_decades_85 rfl rfl ?_
      refine pg_bipush (pc := 86) (v := 10) dX11_decades_86 (by decide) ?_
      refine pg_callV (pc := 88) (As := [.int 10]) (st := [.int 1188, .ref 207, .int v5]) okX11_draw lkX11_443 rfl h0.1 rfl (Nat.le_refl _) (Nat.le_of_ble_eq_true rfl) (e2 c0 x2 M2 w2 c1) dX11_decades_88 (fun r3 M3 w3 => ?_)
      obtain ⟨x3, rfl, w3⟩ := w3
      refine pg_aload_n (pc := 91) (i := 0) (j := 0) (x := 207) dX11_decades_91 rfl rfl ?_
      refine gfX11_89 (pc := 92) rfl h0 dX11_decades_92 ?_
      refine pg_iconst (pc := 95) (v := 4) dX11_decades_95 (by decide) ?_
      refine pg_iald (pc := 96) h0.2.2.2.2.2.2.1 (by unfold vp_in; decide) dX11_decades_96 ?_
      refine pg_icmp_ge (pc := 97) (tgt := 104) dX11_decades_97 (by decide) (fun c2 => ?_) (fun c2 => ?_)
      · skip
        refine pg_iconst (pc := 104) (v := 0) dX11_decades_104 (by decide) ?_
        refine pg_callV (pc := 105) (As := [.int 1188, .int 0]) (st := [.int v5]) okX11_passes lkX11_379 rfl h0.1 rfl (Nat.le_refl _) (Nat.le_of_ble_eq_true rfl) (e3 c0 x2 M2 w2 c1 x3 M3 w3 c2) dX11_decades_105 (fun r4 M4 w4 => ?_)
        obtain ⟨x4, rfl, w4⟩ := w4
        refine pg_iadd (pc := 108) dX11_decades_108 ?_
        refine pg_istore (pc := 109) (i := 5) (ls' := [(5, .int (v5 + x4)), (0, .ref 207), (2, .int v2), (3, .int v3), (4, .int v4), (6, .int v6)]) dX11_decades_109 (by decide) rfl ?_
        refine pg_iload (pc := 111) (i := 4) (j := 4) (x := v4) dX11_decades_111 rfl ?_
        refine pg_aload_n (pc := 113) (i := 0) (j := 1) (x := 207) dX11_decades_113 rfl rfl ?_
        refine pg_sipush (pc := 114) (v := 1188) dX11_decades_114 (by decide) ?_
        refine pg_callV (pc := 117) (As := [.int 1188]) (st := [.int v4]) okX11_lawsOf lkX11_358 rfl h0.1 rfl (Nat.le_refl _) (Nat.le_of_ble_eq_true rfl) (e4 c0 x2 M2 w2 c1 x3 M3 w3 c2 x4 M4 w4) dX11_decades_117 (fun r5 M5 w5 => ?_)
        obtain ⟨x5, rfl, w5⟩ := w5
        refine pg_callS (pc := 120) (As := [.int x5]) (st := [.int v4]) okX11_bits lkX11_298 rfl (Nat.le_refl _) (Nat.le_of_ble_eq_true rfl) (e5 c0 x2 M2 w2 c1 x3 M3 w3 c2 x4 M4 w4 x5 M5 w5) dX11_decades_120 (fun r6 M6 w6 => ?_)
        obtain ⟨x6, rfl, w6⟩ := w6
        refine pg_iadd (pc := 123) dX11_decades_123 ?_
        refine pg_istore (pc := 124) (i := 4) (ls' := [(4, .int (v4 + x6)), (5, .int (v5 + x4)), (0, .ref 207), (2, .int v2), (3, .int v3), (6, .int v6)]) dX11_decades_124 (by decide) rfl ?_
        refine pg_iinc (pc := 126) (i := 6) (j := 5) (x := v6) (v := v6 + 1) (ls' := [(6, .int (v6 + 1)), (4, .int (v4 + x6)), (5, .int (v5 + x4)), (0, .ref 207), (2, .int v2), (3, .int v3)]) dX11_decades_126 rfl rfl (by decide) rfl ?_
        refine pg_goto (pc := 129) (tgt := 62) dX11_decades_129 (by decide) ?_
        refine pg_drop (ks := [3, 4, 5, 1, 2, 0]) (ls' := [(0, .ref 207), (2, .int v2), (3, .int v3), (4, .int (v4 + x6)), (5, .int (v5 + x4)), (6, .int (v6 + 1))]) rfl ?_
        exact k3 c0 x2 M2 w2 c1 x3 M3 w3 c2 x4 M4 w4 x5 M5 w5 x6 M6 w6
      · skip
        refine pg_iconst (pc := 100) (v := 1) dX11_decades_100 (by decide) ?_
        refine pg_goto (pc := 101) (tgt := 105) dX11_decades_101 (by decide) ?_
        refine pg_callV (pc := 105) (As := [.int 1188, .int 1]) (st := [.int v5]) okX11_passes lkX11_379 rfl h0.1 rfl (Nat.le_refl _) (Nat.le_of_ble_eq_true rfl) (e6 c0 x2 M2 w2 c1 x3 M3 w3 c2) dX11_decades_105 (fun r7 M7 w7 => ?_)
        obtain ⟨x7, rfl, w7⟩ := w7
        refine pg_iadd (pc := 108) dX11_decades_108 ?_
        refine pg_istore (pc := 109) (i := 5) (ls' := [(5, .int (v5 + x7)), (0, .ref 207), (2, .int v2), (3, .int v3), (4, .int v4), (6, .int v6)]) dX11_decades_109 (by decide) rfl ?_
        refine pg_iload (pc := 111) (i := 4) (j := 4) (x := v4) dX11_decades_111 rfl ?_
        refine pg_aload_n (pc := 113) (i := 0) (j := 1) (x := 207) dX11_decades_113 rfl rfl ?_
        refine pg_sipush (pc := 114) (v := 1188) dX11_decades_114 (by decide) ?_
        refine pg_callV (pc := 117) (As := [.int 1188]) (st := [.int v4]) okX11_lawsOf lkX11_358 rfl h0.1 rfl (Nat.le_refl _) (Nat.le_of_ble_eq_true rfl) (e7 c0 x2 M2 w2 c1 x3 M3 w3 c2 x7 M7 w7) dX11_decades_117 (fun r8 M8 w8 => ?_)
        obtain ⟨x8, rfl, w8⟩ := w8
        refine pg_callS (pc := 120) (As := [.int x8]) (st := [.int v4]) okX11_bits lkX11_298 rfl (Nat.le_refl _) (Nat.le_of_ble_eq_true rfl) (e8 c0 x2 M2 w2 c1 x3 M3 w3 c2 x7 M7 w7 x8 M8 w8) dX11_decades_120 (fun r9 M9 w9 => ?_)
        obtain ⟨x9, rfl, w9⟩ := w9
        refine pg_iadd (pc := 123) dX11_decades_123 ?_
        refine pg_istore (pc := 124) (i := 4) (ls' := [(4, .int (v4 + x9)), (5, .int (v5 + x7)), (0, .ref 207), (2, .int v2), (3, .int v3), (6, .int v6)]) dX11_decades_124 (by decide) rfl ?_
        refine pg_iinc (pc := 126) (i := 6) (j := 5) (x := v6) (v := v6 + 1) (ls' := [(6, .int (v6 + 1)), (4, .int (v4 + x9)), (5, .int (v5 + x7)), (0, .ref 207), (2, .int v2), (3, .int v3)]) dX11_decades_126 rfl rfl (by decide) rfl ?_
        refine pg_goto (pc := 129) (tgt := 62) dX11_decades_129 (by decide) ?_
        refine pg_drop (ks := [3, 4, 5, 1, 2, 0]) (ls' := [(0, .ref 207), (2, .int v2), (3, .int v3), (4, .int (v4 + x9)), (5, .int (v5 + x7)), (6, .int (v6 + 1))]) rfl ?_
        exact k4 c0 x2 M2 w2 c1 x3 M3 w3 c2 x7 M7 w7 x8 M8 w8 x9 M9 w9
    · skip
      refine pg_aload_n (pc := 75) (i := 0) (j := 0) (x := 207) dX11_decades_75 rfl rfl ?_
      refine pg_callV (pc := 76) (As := []) (st := []) okX11_drawsCloth lkX11_449 rfl h0.1 rfl (Nat.le_refl _) (Nat.le_of_ble_eq_true rfl) (e9 c0 x2 M2 w2 c1) dX11_decades_76 (fun r10 M10 w10 => ?_)
      obtain ⟨rfl, w10⟩ := w10
      refine pg_iload (pc := 79) (i := 5) (j := 4) (x := v5) dX11_decades_79 rfl ?_
      refine pg_aload_n (pc := 81) (i := 0) (j := 0) (x := 207) dX11_decades_81 rfl rfl ?_
      refine pg_sipush (pc := 82) (v := 1188) dX11_decades_82 (by decide) ?_
      refine pg_aload_n (pc := 85) (i := 0) (j := 0) (x := 207) dX11_decades_85 rfl rfl ?_
      refine pg_bipush (pc := 86) (v := 10) dX11_decades_86 (by decide) ?_
      refine pg_callV (pc := 88) (As := [.int 10]) (st := [.int 1188, .ref 207, .int v5]) okX11_draw lkX11_443 rfl h0.1 rfl (Nat.le_refl _) (Nat.le_of_ble_eq_true rfl) (e10 c0 x2 M2 w2 c1 M10 w10) dX11_decades_88 (fun r11 M11 w11 => ?_)
      obtain ⟨x11, rfl, w11⟩ := w11
      refine pg_aload_n (pc := 91) (i := 0) (j := 0) (x := 207) dX11_decades_91 rfl rfl ?_
      refine gfX11_89 (pc := 92) rfl h0 dX11_decades_92 ?_
      refine pg_iconst (pc := 95) (v := 4) dX11_decades_95 (by decide) ?_
      refine pg_iald (pc := 96) h0.2.2.2.2.2.2.1 (by unfold vp_in; decide) dX11_decades_96 ?_
      refine pg_icmp_ge (pc := 97) (tgt := 104) dX11_decades_97 (by decide) (fun c2 => ?_) (fun c2 => ?_)
      · skip
        refine pg_iconst (pc := 104) (v := 0) dX11_decades_104 (by decide) ?_
        refine pg_callV (pc := 105) (As := [.int 1188, .int 0]) (st := [.int v5]) okX11_passes lkX11_379 rfl h0.1 rfl (Nat.le_refl _) (Nat.le_of_ble_eq_true rfl) (e11 c0 x2 M2 w2 c1 M10 w10 x11 M11 w11 c2) dX11_decades_105 (fun r12 M12 w12 => ?_)
        obtain ⟨x12, rfl, w12⟩ := w12
        refine pg_iadd (pc := 108) dX11_decades_108 ?_
        refine pg_istore (pc := 109) (i := 5) (ls' := [(5, .int (v5 + x12)), (0, .ref 207), (2, .int v2), (3, .int v3), (4, .int v4), (6, .int v6)]) dX11_decades_109 (by decide) rfl ?_
        refine pg_iload (pc := 111) (i := 4) (j := 4) (x := v4) dX11_decades_111 rfl ?_
        refine pg_aload_n (pc := 113) (i := 0) (j := 1) (x := 207) dX11_decades_113 rfl rfl ?_
        refine pg_sipush (pc := 114) (v := 1188) dX11_decades_114 (by decide) ?_
        refine pg_callV (pc := 117) (As := [.int 1188]) (st := [.int v4]) okX11_lawsOf lkX11_358 rfl h0.1 rfl (Nat.le_refl _) (Nat.le_of_ble_eq_true rfl) (e12 c0 x2 M2 w2 c1 M10 w10 x11 M11 w11 c2 x12 M12 w12) dX11_decades_117 (fun r13 M13 w13 => ?_)
        obtain ⟨x13, rfl, w13⟩ := w13
        refine pg_callS (pc := 120) (As := [.int x13]) (st := [.int v4]) okX11_bits lkX11_298 rfl (Nat.le_refl _) (Nat.le_of_ble_eq_true rfl) (e13 c0 x2 M2 w2 c1 M10 w10 x11 M11 w11 c2 x12 M12 w12 x13 M13 w13) dX11_decades_120 (fun r14 M14 w14 => ?_)
        obtain ⟨x14, rfl, w14⟩ := w14
        refine pg_iadd (pc := 123) dX11_decades_123 ?_
        refine pg_istore (pc := 124) (i := 4) (ls' := [(4, .int (v4 + x14)), (5, .int (v5 + x12)), (0, .ref 207), (2, .int v2), (3, .int v3), (6, .int v6)]) dX11_decades_124 (by decide) rfl ?_
        refine pg_iinc (pc := 126) (i := 6) (j := 5) (x := v6) (v := v6 + 1) (ls' := [(6, .int (v6 + 1)), (4, .int (v4 + x14)), (5, .int (v5 + x12)), (0, .ref 207), (2, .int v2), (3, .int v3)]) dX11_decades_126 rfl rfl (by decide) rfl ?_
        refine pg_goto (pc := 129) (tgt := 62) dX11_decades_129 (by decide) ?_
        refine pg_drop (ks := [3, 4, 5, 1, 2, 0]) (ls' := [(0, .ref 207), (2, .int v2), (3, .int v3), (4, .int (v4 + x14)), (5, .int (v5 + x12)), (6, .int (v6 + 1))]) rfl ?_
        exact k5 c0 x2 M2 w2 c1 M10 w10 x11 M11 w11 c2 x12 M12 w12 x13 M13 w13 x14 M14 w14
      · skip
        refine pg_iconst (pc := 100) (v := 1) dX11_decades_100 (by decide) ?_
        refine pg_goto (pc := 101) (tgt := 105) dX11_decades_101 (by decide) ?_
        refine pg_callV (pc := 105) (As := [.int 1188, .int 1]) (st := [.int v5]) okX11_passes lkX11_379 rfl h0.1 rfl (Nat.le_refl _) (Nat.le_of_ble_eq_true rfl) (e14 c0 x2 M2 w2 c1 M10 w10 x11 M11 w11 c2) dX11_decades_105 (fun r15 M15 w15 => ?_)
        obtain ⟨x15, rfl, w15⟩ := w15
        refine pg_iadd (pc := 108) dX11_decades_108 ?_
        refine pg_istore (pc := 109) (i := 5) (ls' := [(5, .int (v5 + x15)), (0, .ref 207), (2, .int v2), (3, .int v3), (4, .int v4), (6, .int v6)]) dX11_decades_109 (by decide) rfl ?_
        refine pg_iload (pc := 111) (i := 4) (j := 4) (x := v4) dX11_decades_111 rfl ?_
        refine pg_aload_n (pc := 113) (i := 0) (j := 1) (x := 207) dX11_decades_113 rfl rfl ?_
        refine pg_sipush (pc := 114) (v := 1188) dX11_decades_114 (by decide) ?_
        refine pg_callV (pc := 117) (As := [.int 1188]) (st := [.int v4]) okX11_lawsOf lkX11_358 rfl h0.1 rfl (Nat.le_refl _) (Nat.le_of_ble_eq_true rfl) (e15 c0 x2 M2 w2 c1 M10 w10 x11 M11 w11 c2 x15 M15 w15) dX11_decades_117 (fun r16 M16 w16 => ?_)
        obtain ⟨x16, rfl, w16⟩ := w16
        refine pg_callS (pc := 120) (As := [.int x16]) (st := [.int v4]) okX11_bits lkX11_298 rfl (Nat.le_refl _) (Nat.le_of_ble_eq_true rfl) (e16 c0 x2 M2 w2 c1 M10 w10 x11 M11 w11 c2 x15 M15 w15 x16 M16 w16) dX11_decades_120 (fun r17 M17 w17 => ?_)
        obtain ⟨x17, rfl, w17⟩ := w17
        refine pg_iadd (pc := 123) dX11_decades_123 ?_
        refine pg_istore (pc := 124) (i := 4) (ls' := [(4, .int (v4 + x17)), (5, .int (v5 + x15)), (0, .ref 207), (2, .int v2), (3, .int v3), (6, .int v6)]) dX11_decades_124 (by decide) rfl ?_
        refine pg_iinc (pc := 126) (i := 6) (j := 5) (x := v6) (v := v6 + 1) (ls' := [(6, .int (v6 + 1)), (4, .int (v4 + x17)), (5, .int (v5 + x15)), (0, .ref 207), (2, .int v2), (3, .int v3)]) dX11_decades_126 rfl rfl (by decide) rfl ?_
        refine pg_goto (pc := 129) (tgt := 62) dX11_decades_129 (by decide) ?_
        refine pg_drop (ks := [3, 4, 5, 1, 2, 0]) (ls' := [(0, .ref 207), (2, .int v2), (3, .int v3), (4, .int (v4 + x17)), (5, .int (v5 + x15)), (6, .int (v6 + 1))]) rfl ?_
        exact k6 c0 x2 M2 w2 c1 M10 w10 x11 M11 w11 c2 x15 M15 w15 x16 M16 w16 x17 M17 w17
theorem oX11_decades {d : Nat} {v1 : Int32} {v2 : Int32} {v3 : Int32} (h : pg_At S Λ YX11_decades d 0 [(0, .ref 207), (1, .int v1), (2, .int v2), (3, .int v3)] [] M P) : pg_Ev S Λ YX11_decades d [.ref 207, .int v1, .int v2, .int v3] M P := pg_Ev.of (by decide) (by first | decide | exact Nat.le_of_ble_eq_true rfl) h
theorem sX11_mark_0 {v1 : Int32} {v2 : Int32} {Q0 : Int32 → pg_M → Prop}
    (h0 : pg_isX11 Λ)
    (e0 : pg_Ev S Λ YX11_within d [.int v1, .int 0, .int 3] (pg_si M 207 0 0) (fun r M' => ∃ x, r = some (.int x) ∧ Q0 x M'))
    (k0 : ∀ x1 M1, Q0 x1 M1 → (x1 = 0) → P (some (.int 0)) M1)
    (k1 : ∀ x1 M1, Q0 x1 M1 → (¬ x1 = 0) → (v2 = 0) → pg_At S Λ YX11_mark (d + 1) 29 [(0, .ref 207), (1, .int v1), (2, .int v2)] [] M1 P)
    (b0 : ∀ x1 M1, Q0 x1 M1 → (¬ x1 = 0) → (¬ v2 = 0) → vp_in v1 4)
    (k2 : ∀ x1 M1, Q0 x1 M1 → (¬ x1 = 0) → (¬ v2 = 0) → (¬ (M1.1 222 v1.toNatClampNeg) = 0) → pg_At S Λ YX11_mark (d + 1) 29 [(0, .ref 207), (1, .int v1), (2, .int v2)] [] M1 P)
    (k3 : ∀ x1 M1, Q0 x1 M1 → (¬ x1 = 0) → (¬ v2 = 0) → ((M1.1 222 v1.toNatClampNeg) = 0) → P (some (.int 0)) M1) :
    pg_At S Λ YX11_mark (d + 1) 0 [(0, .ref 207), (1, .int v1), (2, .int v2)] [] M P := by
  refine pg_aload_n (pc := 0) (i := 0) (j := 0) (x := 207) dX11_mark_0 rfl rfl ?_
  refine pg_iconst (pc := 1) (v := 0) dX11_mark_1 (by decide) ?_
  refine pfX11_1 (pc := 2) rfl h0 dX11_mark_2 ?_
  refine pg_iload_n (pc := 5) (i := 1) (j := 1) (x := v1) dX11_mark_5 rfl rfl ?_
  refine pg_iconst (pc := 6) (v := 0) dX11_mark_6 (by decide) ?_
  refine pg_iconst (pc := 7) (v := 3) dX11_mark_7 (by decide) ?_
  refine pg_callS (pc := 8) (As := [.int v1, .int 0, .int 3]) (st := []) okX11_within lkX11_349 rfl (Nat.le_refl _) (Nat.le_of_ble_eq_true rfl) e0 dX11_mark_8 (fun r1 M1 w1 => ?_)
  obtain ⟨x1, rfl, w1⟩ := w1
  refine pg_if_eq (pc := 11) (tgt := 27) dX11_mark_11 (by decide) (fun c0 => ?_) (fun c0 => ?_)
  · skip
    refine pg_iconst (pc := 27) (v := 0) dX11_mark_27 (by decide) ?_
    exact pg_zret (pc := 28) rfl rfl dX11_mark_28 (k0 x1 M1 w1 c0)
  · skip
    refine pg_iload_n (pc := 14) (i := 2) (j := 2) (x := v2) dX11_mark_14 rfl rfl ?_
    refine pg_if_eq (pc := 15) (tgt := 29) dX11_mark_15 (by decide) (fun c1 => ?_) (fun c1 => ?_)
    · skip
      exact k1 x1 M1 w1 c0 c1
    · skip
      refine pg_aload_n (pc := 18) (i := 0) (j := 0) (x := 207) dX11_mark_18 rfl rfl ?_
      refine gfX11_116 (pc := 19) rfl h0 dX11_mark_19 ?_
      refine pg_iload_n (pc := 22) (i := 1) (j := 1) (x := v1) dX11_mark_22 rfl rfl ?_
      refine pg_zald (pc := 23) h0.2.2.2.2.2.2.2.2.2.2.2.2.2.2.2.1 (b0 x1 M1 w1 c0 c1) dX11_mark_23 ?_
      refine pg_if_ne (pc := 24) (tgt := 29) dX11_mark_24 (by decide) (fun c2 => ?_) (fun c2 => ?_)
      · skip
        exact k2 x1 M1 w1 c0 c1 c2
      · skip
        refine pg_iconst (pc := 27) (v := 0) dX11_mark_27 (by decide) ?_
        exact pg_zret (pc := 28) rfl rfl dX11_mark_28 (k3 x1 M1 w1 c0 c1 c2)
theorem sX11_mark_29 {v1 : Int32} {v2 : Int32} {Q0 : pg_M → Prop} {Q1 : pg_M → Prop} {Q2 : pg_M → Prop} {Q3 : pg_M → Prop}
    (h0 : pg_isX11 Λ)
    (b0 : vp_in v1 4)
    (e0 : (v2 = 0) → (v2 = 0) → pg_Ev S Λ YX11_copies d [.ref 207, .int 0, .int (54 * (1 + v1)), .int 54] (pg_si M 222 v1.toNatClampNeg (vp_nar .boolean 1)) (fun r M' => r = none ∧ Q0 M'))
    (k0 : (v2 = 0) → (v2 = 0) → ∀ M1, Q0 M1 → (v2 = 0) → P (some (.int 1)) (pg_si M1 207 23 (M1.1 207 23)))
    (k1 : (v2 = 0) → (v2 = 0) → ∀ M1, Q0 M1 → (¬ v2 = 0) → P (some (.int 1)) (pg_si M1 207 23 0))
    (e1 : (v2 = 0) → (¬ v2 = 0) → pg_Ev S Λ YX11_copies d [.ref 207, .int 0, .int 0, .int 54] (pg_si M 222 v1.toNatClampNeg (vp_nar .boolean 1)) (fun r M' => r = none ∧ Q1 M'))
    (k2 : (v2 = 0) → (¬ v2 = 0) → ∀ M2, Q1 M2 → (v2 = 0) → P (some (.int 1)) (pg_si M2 207 23 (M2.1 207 23)))
    (k3 : (v2 = 0) → (¬ v2 = 0) → ∀ M2, Q1 M2 → (¬ v2 = 0) → P (some (.int 1)) (pg_si M2 207 23 0))
    (e2 : (¬ v2 = 0) → (v2 = 0) → pg_Ev S Λ YX11_copies d [.ref 207, .int (54 * (1 + v1)), .int (54 * (1 + v1)), .int 54] (pg_si M 222 v1.toNatClampNeg (vp_nar .boolean 1)) (fun r M' => r = none ∧ Q2 M'))
    (k4 : (¬ v2 = 0) → (v2 = 0) → ∀ M3, Q2 M3 → (v2 = 0) → P (some (.int 1)) (pg_si M3 207 23 (M3.1 207 23)))
    (k5 : (¬ v2 = 0) → (v2 = 0) → ∀ M3, Q2 M3 → (¬ v2 = 0) → P (some (.int 1)) (pg_si M3 207 23 0))
    (e3 : (¬ v2 = 0) → (¬ v2 = 0) → pg_Ev S Λ YX11_copies d [.ref 207, .int (54 * (1 + v1)), .int 0, .int 54] (pg_si M 222 v1.toNatClampNeg (vp_nar .boolean 1)) (fun r M' => r = none ∧ Q3 M'))
    (k6 : (¬ v2 = 0) → (¬ v2 = 0) → ∀ M4, Q3 M4 → (v2 = 0) → P (some (.int 1)) (pg_si M4 207 23 (M4.1 207 23)))
    (k7 : (¬ v2 = 0) → (¬ v2 = 0) → ∀ M4, Q3 M4 → (¬ v2 = 0) → P (some (.int 1)) (pg_si M4 207 23 0)) :
    pg_At S Λ YX11_mark (d + 1) 29 [(0, .ref 207), (1, .int v1), (2, .int v2)] [] M P := by
  refine pg_aload_n (pc := 29) (i := 0) (j := 0) (x := 207) dX11_mark_29 rfl rfl ?_
  refine gfX11_116 (pc := 30) rfl h0 dX11_mark_30 ?_
  refine pg_iload_n (pc := 33) (i := 1) (j := 1) (x := v1) dX11_mark_33 rfl rfl ?_
  refine pg_iconst (pc := 34) (v := 1) dX11_mark_34 (by decide) ?_
  refine pg_zast (pc := 35) h0.2.2.2.2.2.2.2.2.2.2.2.2.2.2.2.1 b0 dX11_mark_35 ?_
  refine pg_aload_n (pc := 36) (i := 0) (j := 0) (x := 207) dX11_mark_36 rfl rfl ?_
  refine pg_iload_n (pc := 37) (i := 2) (j := 2) (x := v2) dX11_mark_37 rfl rfl ?_
  refine pg_if_eq (pc := 38) (tgt := 50) dX11_mark_38 (by decide) (fun c0 => ?_) (fun c0 => ?_)
  · skip
    refine pg_iconst (pc := 50) (v := 0) dX11_mark_50 (by decide) ?_
    refine pg_iload_n (pc := 51) (i := 2) (j := 2) (x := v2) dX11_mark_51 rfl rfl ?_
    refine pg_if_eq (pc := 52) (tgt := 59) dX11_mark_52 (by decide) (fun c1 => ?_) (fun c1 => ?_)
    · skip
      refine pg_bipush (pc := 59) (v := 54) dX11_mark_59 (by decide) ?_
      refine pg_iconst (pc := 61) (v := 1) dX11_mark_61 (by decide) ?_
      refine pg_iload_n (pc := 62) (i := 1) (j := 1) (x := v1) dX11_mark_62 rfl rfl ?_
      refine pg_iadd (pc := 63) dX11_mark_63 ?_
      refine pg_imul (pc := 64) dX11_mark_64 ?_
      refine pg_bipush (pc := 65) (v := 54) dX11_mark_65 (by decide) ?_
      refine pg_callV (pc := 67) (As := [.int 0, .int (54 * (1 + v1)), .int 54]) (st := []) okX11_copies lkX11_288 rfl h0.1 rfl (Nat.le_refl _) (Nat.le_of_ble_eq_true rfl) (e0 c0 c1) dX11_mark_67 (fun r1 M1 w1 => ?_)
      obtain ⟨rfl, w1⟩ := w1
      refine pg_aload_n (pc := 70) (i := 0) (j := 0) (x := 207) dX11_mark_70 rfl rfl ?_
      refine pg_iload_n (pc := 71) (i := 2) (j := 2) (x := v2) dX11_mark_71 rfl rfl ?_
      refine pg_if_eq (pc := 72) (tgt := 79) dX11_mark_72 (by decide) (fun c2 => ?_) (fun c2 => ?_)
      · skip
        refine pg_aload_n (pc := 79) (i := 0) (j := 0) (x := 207) dX11_mark_79 rfl rfl ?_
        refine gfX11_285 (pc := 80) rfl h0 dX11_mark_80 ?_
        refine pfX11_285 (pc := 83) rfl h0 dX11_mark_83 ?_
        refine pg_iconst (pc := 86) (v := 1) dX11_mark_86 (by decide) ?_
        exact pg_zret (pc := 87) rfl rfl dX11_mark_87 (k0 c0 c1 M1 w1 c2)
      · skip
        refine pg_iconst (pc := 75) (v := 0) dX11_mark_75 (by decide) ?_
        refine pg_goto (pc := 76) (tgt := 83) dX11_mark_76 (by decide) ?_
        refine pfX11_285 (pc := 83) rfl h0 dX11_mark_83 ?_
        refine pg_iconst (pc := 86) (v := 1) dX11_mark_86 (by decide) ?_
        exact pg_zret (pc := 87) rfl rfl dX11_mark_87 (k1 c0 c1 M1 w1 c2)
    · skip
      refine pg_iconst (pc := 55) (v := 0) dX11_mark_55 (by decide) ?_
      refine pg_goto (pc := 56) (tgt := 65) dX11_mark_56 (by decide) ?_
      refine pg_bipush (pc := 65) (v := 54) dX11_mark_65 (by decide) ?_
      refine pg_callV (pc := 67) (As := [.int 0, .int 0, .int 54]) (st := []) okX11_copies lkX11_288 rfl h0.1 rfl (Nat.le_refl _) (Nat.le_of_ble_eq_true rfl) (e1 c0 c1) dX11_mark_67 (fun r2 M2 w2 => ?_)
      obtain ⟨rfl, w2⟩ := w2
      refine pg_aload_n (pc := 70) (i := 0) (j := 0) (x := 207) dX11_mark_70 rfl rfl ?_
      refine pg_iload_n (pc := 71) (i := 2) (j := 2) (x := v2) dX11_mark_71 rfl rfl ?_
      refine pg_if_eq (pc := 72) (tgt := 79) dX11_mark_72 (by decide) (fun c2 => ?_) (fun c2 => ?_)
      · skip
        refine pg_aload_n (pc := 79) (i := 0) (j := 0) (x := 207) dX11_mark_79 rfl rfl ?_
        refine gfX11_285 (pc := 80) rfl h0 dX11_mark_80 ?_
        refine pfX11_285 (pc := 83) rfl h0 dX11_mark_83 ?_
        refine pg_iconst (pc := 86) (v := 1) dX11_mark_86 (by decide) ?_
        exact pg_zret (pc := 87) rfl rfl dX11_mark_87 (k2 c0 c1 M2 w2 c2)
      · skip
        refine pg_iconst (pc := 75) (v := 0) dX11_mark_75 (by decide) ?_
        refine pg_goto (pc := 76) (tgt := 83) dX11_mark_76 (by decide) ?_
        refine pfX11_285 (pc := 83) rfl h0 dX11_mark_83 ?_
        refine pg_iconst (pc := 86) (v := 1) dX11_mark_86 (by decide) ?_
        exact pg_zret (pc := 87) rfl rfl dX11_mark_87 (k3 c0 c1 M2 w2 c2)
  · skip
    refine pg_bipush (pc := 41) (v := 54) dX11_mark_41 (by decide) ?_
    refine pg_iconst (pc := 43) (v := 1) dX11_mark_43 (by decide) ?_
    refine pg_iload_n (pc := 44) (i := 1) (j := 1) (x := v1) dX11_mark_44 rfl rfl ?_
    refine pg_iadd (pc := 45) dX11_mark_45 ?_
    refine pg_imul (pc := 46) dX11_mark_46 ?_
    refine pg_goto (pc := 47) (tgt := 51) dX11_mark_47 (by decide) ?_
    refine pg_iload_n (pc := 51) (i := 2) (j := 2) (x := v2) dX11_mark_51 rfl rfl ?_
    refine pg_if_eq (pc := 52) (tgt := 59) dX11_mark_52 (by decide) (fun c1 => ?_) (fun c1 => ?_)
    · skip
      refine pg_bipush (pc := 59) (v := 54) dX11_mark_59 (by decide) ?_
      refine pg_iconst (pc := 61) (v := 1) dX11_mark_61 (by decide) ?_
      refine pg_iload_n (pc := 62) (i := 1) (j := 1) (x := v1) dX11_mark_62 rfl rfl ?_
      refine pg_iadd (pc := 63) dX11_mark_63 ?_
      refine pg_imul (pc := 64) dX11_mark_64 ?_
      refine pg_bipush (pc := 65) (v := 54) dX11_mark_65 (by decide) ?_
      refine pg_callV (pc := 67) (As := [.int (54 * (1 + v1)), .int (54 * (1 + v1)), .int 54]) (st := []) okX11_copies lkX11_288 rfl h0.1 rfl (Nat.le_refl _) (Nat.le_of_ble_eq_true rfl) (e2 c0 c1) dX11_mark_67 (fun r3 M3 w3 => ?_)
      obtain ⟨rfl, w3⟩ := w3
      refine pg_aload_n (pc := 70) (i := 0) (j := 0) (x := 207) dX11_mark_70 rfl rfl ?_
      refine pg_iload_n (pc := 71) (i := 2) (j := 2) (x := v2) dX11_mark_71 rfl rfl ?_
      refine pg_if_eq (pc := 72) (tgt := 79) dX11_mark_72 (by decide) (fun c2 => ?_) (fun c2 => ?_)
      · skip
        refine pg_aload_n (pc := 79) (i := 0) (j := 0) (x := 207) dX11_mark_79 rfl rfl ?_
        refine gfX11_285 (pc := 80) rfl h0 dX11_mark_80 ?_
        refine pfX11_285 (pc := 83) rfl h0 dX11_mark_83 ?_
        refine pg_iconst (pc := 86) (v := 1) dX11_mark_86 (by decide) ?_
        exact pg_zret (pc := 87) rfl rfl dX11_mark_87 (k4 c0 c1 M3 w3 c2)
      · skip
        refine pg_iconst (pc := 75) (v := 0) dX11_mark_75 (by decide) ?_
        refine pg_goto (pc := 76) (tgt := 83) dX11_mark_76 (by decide) ?_
        refine pfX11_285 (pc := 83) rfl h0 dX11_mark_83 ?_
        refine pg_iconst (pc := 86) (v := 1) dX11_mark_86 (by decide) ?_
        exact pg_zret (pc := 87) rfl rfl dX11_mark_87 (k5 c0 c1 M3 w3 c2)
    · skip
      refine pg_iconst (pc := 55) (v := 0) dX11_mark_55 (by decide) ?_
      refine pg_goto (pc := 56) (tgt := 65) dX11_mark_56 (by decide) ?_
      refine pg_bipush (pc := 65) (v := 54) dX11_mark_65 (by decide) ?_
      refine pg_callV (pc := 67) (As := [.int (54 * (1 + v1)), .int 0, .int 54]) (st := []) okX11_copies lkX11_288 rfl h0.1 rfl (Nat.le_refl _) (Nat.le_of_ble_eq_true rfl) (e3 c0 c1) dX11_mark_67 (fun r4 M4 w4 => ?_)
      obtain ⟨rfl, w4⟩ := w4
      refine pg_aload_n (pc := 70) (i := 0) (j := 0) (x := 207) dX11_mark_70 rfl rfl ?_
      refine pg_iload_n (pc := 71) (i := 2) (j := 2) (x := v2) dX11_mark_71 rfl rfl ?_
      refine pg_if_eq (pc := 72) (tgt := 79) dX11_mark_72 (by decide) (fun c2 => ?_) (fun c2 => ?_)
      · skip
        refine pg_aload_n (pc := 79) (i := 0) (j := 0) (x := 207) dX11_mark_79 rfl rfl ?_
        refine gfX11_285 (pc := 80) rfl h0 dX11_mark_80 ?_
        refine pfX11_285 (pc := 83) rfl h0 dX11_mark_83 ?_
        refine pg_iconst (pc := 86) (v := 1) dX11_mark_86 (by decide) ?_
        exact pg_zret (pc := 87) rfl rfl dX11_mark_87 (k6 c0 c1 M4 w4 c2)
      · skip
        refine pg_iconst (pc := 75) (v := 0) dX11_mark_75 (by decide) ?_
        refine pg_goto (pc := 76) (tgt := 83) dX11_mark_76 (by decide) ?_
        refine pfX11_285 (pc := 83) rfl h0 dX11_mark_83 ?_
        refine pg_iconst (pc := 86) (v := 1) dX11_mark_86 (by decide) ?_
        exact pg_zret (pc := 87) rfl rfl dX11_mark_87 (k7 c0 c1 M4 w4 c2)
theorem oX11_mark {d : Nat} {v1 : Int32} {v2 : Int32} (h : pg_At S Λ YX11_mark d 0 [(0, .ref 207), (1, .int v1), (2, .int v2)] [] M P) : pg_Ev S Λ YX11_mark d [.ref 207, .int v1, .int v2] M P := pg_Ev.of (by decide) (by first | decide | exact Nat.le_of_ble_eq_true rfl) h
theorem sX11_turnedSet_0  
    (k0 : pg_At S Λ YX11_turnedSet (d + 1) 4 [(0, .ref 207), (1, .int 0), (2, .int 0)] [] M P) :
    pg_At S Λ YX11_turnedSet (d + 1) 0 [(0, .ref 207)] [] M P := by
  refine pg_iconst (pc := 0) (v := 0) dX11_turnedSet_0 (by decide) ?_
  refine pg_istore_n (pc := 1) (i := 1) (ls' := [(1, .int 0), (0, .ref 207)]) dX11_turnedSet_1 rfl (by decide) rfl ?_
  refine pg_iconst (pc := 2) (v := 0) dX11_turnedSet_2 (by decide) ?_
  refine pg_istore_n (pc := 3) (i := 2) (ls' := [(2, .int 0), (1, .int 0), (0, .ref 207)]) dX11_turnedSet_3 rfl (by decide) rfl ?_
  refine pg_drop (ks := [2, 1, 0]) (ls' := [(0, .ref 207), (1, .int 0), (2, .int 0)]) rfl ?_
  exact k0
theorem sX11_turnedSet_4 {v1 : Int32} {v2 : Int32} {Q0 : Int32 → pg_M → Prop} {Q1 : Int32 → pg_M → Prop}
    (h0 : pg_isX11 Λ)
    (e0 : pg_Ev S Λ YX11_cloths d [.ref 207] M (fun r M' => ∃ x, r = some (.int x) ∧ Q0 x M'))
    (k0 : ∀ x1 M1, Q0 x1 M1 → (x1 ≤ v2) → P (some (.int v1)) M1)
    (e1 : ∀ x1 M1, Q0 x1 M1 → (¬ x1 ≤ v2) → pg_Ev S Λ YX11_isTurned d [.ref 207, .int 0, .int v2] M1 (fun r M' => ∃ x, r = some (.int x) ∧ Q1 x M'))
    (k1 : ∀ x1 M1, Q0 x1 M1 → (¬ x1 ≤ v2) → ∀ x2 M2, Q1 x2 M2 → (x2 = 0) → pg_At S Λ YX11_turnedSet (d + 1) 4 [(0, .ref 207), (1, .int (v1 ||| 0)), (2, .int (v2 + 1))] [] M2 P)
    (k2 : ∀ x1 M1, Q0 x1 M1 → (¬ x1 ≤ v2) → ∀ x2 M2, Q1 x2 M2 → (¬ x2 = 0) → pg_At S Λ YX11_turnedSet (d + 1) 4 [(0, .ref 207), (1, .int (v1 ||| ((1 : Int32) <<< (v2 &&& 31)))), (2, .int (v2 + 1))] [] M2 P) :
    pg_At S Λ YX11_turnedSet (d + 1) 4 [(0, .ref 207), (1, .int v1), (2, .int v2)] [] M P := by
  refine pg_iload_n (pc := 4) (i := 2) (j := 2) (x := v2) dX11_turnedSet_4 rfl rfl ?_
  refine pg_aload_n (pc := 5) (i := 0) (j := 0) (x := 207) dX11_turnedSet_5 rfl rfl ?_
  refine pg_callV (pc := 6) (As := []) (st := [.int v2]) okX11_cloths lkX11_292 rfl h0.1 rfl (Nat.le_refl _) (Nat.le_of_ble_eq_true rfl) e0 dX11_turnedSet_6 (fun r1 M1 w1 => ?_)
  obtain ⟨x1, rfl, w1⟩ := w1
  refine pg_icmp_ge (pc := 9) (tgt := 37) dX11_turnedSet_9 (by decide) (fun c0 => ?_) (fun c0 => ?_)
  · skip
    refine pg_iload_n (pc := 37) (i := 1) (j := 1) (x := v1) dX11_turnedSet_37 rfl rfl ?_
    exact pg_iret (pc := 38) rfl dX11_turnedSet_38 (k0 x1 M1 w1 c0)
  · skip
    refine pg_iload_n (pc := 12) (i := 1) (j := 1) (x := v1) dX11_turnedSet_12 rfl rfl ?_
    refine pg_aload_n (pc := 13) (i := 0) (j := 0) (x := 207) dX11_turnedSet_13 rfl rfl ?_
    refine pg_iconst (pc := 14) (v := 0) dX11_turnedSet_14 (by decide) ?_
    refine pg_iload_n (pc := 15) (i := 2) (j := 2) (x := v2) dX11_turnedSet_15 rfl rfl ?_
    refine pg_callV (pc := 16) (As := [.int 0, .int v2]) (st := [.int v1]) okX11_isTurned lkX11_352 rfl h0.1 rfl (Nat.le_refl _) (Nat.le_of_ble_eq_true rfl) (e1 x1 M1 w1 c0) dX11_turnedSet_16 (fun r2 M2 w2 => ?_)
    obtain ⟨x2, rfl, w2⟩ := w2
    refine pg_if_eq (pc := 19) (tgt := 28) dX11_turnedSet_19 (by decide) (fun c1 => ?_) (fun c1 => ?_)
    · skip
      refine pg_iconst (pc := 28) (v := 0) dX11_turnedSet_28 (by decide) ?_
      refine pg_ior (pc := 29) dX11_turnedSet_29 ?_
      refine pg_istore_n (pc := 30) (i := 1) (ls' := [(1, .int (v1 ||| 0)), (0, .ref 207), (2, .int v2)]) dX11_turnedSet_30 rfl (by decide) rfl ?_
      refine pg_iinc (pc := 31) (i := 2) (j := 2) (x := v2) (v := v2 + 1) (ls' := [(2, .int (v2 + 1)), (1, .int (v1 ||| 0)), (0, .ref 207)]) dX11_turnedSet_31 rfl rfl (by decide) rfl ?_
      refine pg_goto (pc := 34) (tgt := 4) dX11_turnedSet_34 (by decide) ?_
      refine pg_drop (ks := [2, 1, 0]) (ls' := [(0, .ref 207), (1, .int (v1 ||| 0)), (2, .int (v2 + 1))]) rfl ?_
      exact k1 x1 M1 w1 c0 x2 M2 w2 c1
    · skip
      refine pg_iconst (pc := 22) (v := 1) dX11_turnedSet_22 (by decide) ?_
      refine pg_iload_n (pc := 23) (i := 2) (j := 2) (x := v2) dX11_turnedSet_23 rfl rfl ?_
      refine pg_ishl (pc := 24) dX11_turnedSet_24 ?_
      refine pg_goto (pc := 25) (tgt := 29) dX11_turnedSet_25 (by decide) ?_
      refine pg_ior (pc := 29) dX11_turnedSet_29 ?_
      refine pg_istore_n (pc := 30) (i := 1) (ls' := [(1, .int (v1 ||| ((1 : Int32) <<< (v2 &&& 31)))), (0, .ref 207), (2, .int v2)]) dX11_turnedSet_30 rfl (by decide) rfl ?_
      refine pg_iinc (pc := 31) (i := 2) (j := 2) (x := v2) (v := v2 + 1) (ls' := [(2, .int (v2 + 1)), (1, .int (v1 ||| ((1 : Int32) <<< (v2 &&& 31)))), (0, .ref 207)]) dX11_turnedSet_31 rfl rfl (by decide) rfl ?_
      refine pg_goto (pc := 34) (tgt := 4) dX11_turnedSet_34 (by decide) ?_
      refine pg_drop (ks := [2, 1, 0]) (ls' := [(0, .ref 207), (1, .int (v1 ||| ((1 : Int32) <<< (v2 &&& 31)))), (2, .int (v2 + 1))]) rfl ?_
      exact k2 x1 M1 w1 c0 x2 M2 w2 c1
theorem oX11_turnedSet {d : Nat}  (h : pg_At S Λ YX11_turnedSet d 0 [(0, .ref 207)] [] M P) : pg_Ev S Λ YX11_turnedSet d [.ref 207] M P := pg_Ev.of (by decide) (by first | decide | exact Nat.le_of_ble_eq_true rfl) h
theorem sX11_count_0 {v1 : Int32} {Q0 : Int32 → pg_M → Prop} {Q1 : Int32 → pg_M → Prop} {Q2 : Int32 → pg_M → Prop} {Q3 : Int32 → pg_M → Prop} {Q4 : Int32 → pg_M → Prop} {Q5 : Int32 → pg_M → Prop}
    (h0 : pg_isX11 Λ)
    (e0 : (v1 = 0) → pg_Ev S Λ YX11_cloths d [.ref 207] (pg_si M 207 0 0) (fun r M' => ∃ x, r = some (.int x) ∧ Q0 x M'))
    (k0 : (v1 = 0) → ∀ x1 M1, Q0 x1 M1 → P (some (.int x1)) M1)
    (k1 : (¬ v1 = 0) → (v1 = 1) → P (some (.int ((pg_si M 207 0 0).1 221 (1 : Int32).toNatClampNeg))) (pg_si M 207 0 0))
    (k2 : (¬ v1 = 0) → (¬ v1 = 1) → (v1 = 2) → P (some (.int ((pg_si M 207 0 0).1 213 (3 : Int32).toNatClampNeg))) (pg_si M 207 0 0))
    (e1 : (¬ v1 = 0) → (¬ v1 = 1) → (¬ v1 = 2) → (v1 = 3) → pg_Ev S Λ YX11_roomLeft d [.ref 207, .int 0] (pg_si M 207 0 0) (fun r M' => ∃ x, r = some (.int x) ∧ Q1 x M'))
    (k3 : (¬ v1 = 0) → (¬ v1 = 1) → (¬ v1 = 2) → (v1 = 3) → ∀ x2 M2, Q1 x2 M2 → P (some (.int x2)) M2)
    (k4 : (¬ v1 = 0) → (¬ v1 = 1) → (¬ v1 = 2) → (¬ v1 = 3) → (v1 = 4) → P (some (.int ((pg_si M 207 0 0).1 221 (0 : Int32).toNatClampNeg))) (pg_si M 207 0 0))
    (e2 : (¬ v1 = 0) → (¬ v1 = 1) → (¬ v1 = 2) → (¬ v1 = 3) → (¬ v1 = 4) → (v1 = 5) → pg_Ev S Λ YX11_windOf d [.ref 207, .int ((pg_si M 207 0 0).1 221 (0 : Int32).toNatClampNeg), .int 0] (pg_si M 207 0 0) (fun r M' => ∃ x, r = some (.int x) ∧ Q2 x M'))
    (k5 : (¬ v1 = 0) → (¬ v1 = 1) → (¬ v1 = 2) → (¬ v1 = 3) → (¬ v1 = 4) → (v1 = 5) → ∀ x3 M3, Q2 x3 M3 → P (some (.int x3)) M3)
    (e3 : (¬ v1 = 0) → (¬ v1 = 1) → (¬ v1 = 2) → (¬ v1 = 3) → (¬ v1 = 4) → (¬ v1 = 5) → (v1 = 6) → pg_Ev S Λ YX11_lawsOf d [.ref 207, .int 0] (pg_si M 207 0 0) (fun r M' => ∃ x, r = some (.int x) ∧ Q3 x M'))
    (e4 : (¬ v1 = 0) → (¬ v1 = 1) → (¬ v1 = 2) → (¬ v1 = 3) → (¬ v1 = 4) → (¬ v1 = 5) → (v1 = 6) → ∀ x4 M4, Q3 x4 M4 → pg_Ev S Λ YX11_worthOf d [.ref 207, .int x4] M4 (fun r M' => ∃ x, r = some (.int x) ∧ Q4 x M'))
    (k6 : (¬ v1 = 0) → (¬ v1 = 1) → (¬ v1 = 2) → (¬ v1 = 3) → (¬ v1 = 4) → (¬ v1 = 5) → (v1 = 6) → ∀ x4 M4, Q3 x4 M4 → ∀ x5 M5, Q4 x5 M5 → P (some (.int x5)) M5)
    (e5 : (¬ v1 = 0) → (¬ v1 = 1) → (¬ v1 = 2) → (¬ v1 = 3) → (¬ v1 = 4) → (¬ v1 = 5) → (¬ v1 = 6) → (v1 = 7) → pg_Ev S Λ YX11_turnedSet d [.ref 207] (pg_si M 207 0 0) (fun r M' => ∃ x, r = some (.int x) ∧ Q5 x M'))
    (k7 : (¬ v1 = 0) → (¬ v1 = 1) → (¬ v1 = 2) → (¬ v1 = 3) → (¬ v1 = 4) → (¬ v1 = 5) → (¬ v1 = 6) → (v1 = 7) → ∀ x6 M6, Q5 x6 M6 → P (some (.int x6)) M6)
    (k8 : (¬ v1 = 0) → (¬ v1 = 1) → (¬ v1 = 2) → (¬ v1 = 3) → (¬ v1 = 4) → (¬ v1 = 5) → (¬ v1 = 6) → (¬ v1 = 7) → (v1 = 8) → P (some (.int ((pg_si M 207 0 0).1 213 (5 : Int32).toNatClampNeg))) (pg_si M 207 0 0))
    (k9 : (¬ v1 = 0) → (¬ v1 = 1) → (¬ v1 = 2) → (¬ v1 = 3) → (¬ v1 = 4) → (¬ v1 = 5) → (¬ v1 = 6) → (¬ v1 = 7) → (¬ v1 = 8) → (v1 = 9) → P (some (.int ((pg_si M 207 0 0).1 218 (0 : Int32).toNatClampNeg))) (pg_si M 207 0 0))
    (k10 : (¬ v1 = 0) → (¬ v1 = 1) → (¬ v1 = 2) → (¬ v1 = 3) → (¬ v1 = 4) → (¬ v1 = 5) → (¬ v1 = 6) → (¬ v1 = 7) → (¬ v1 = 8) → (¬ v1 = 9) → (v1 = 10) → P (some (.int ((pg_si M 207 0 0).1 221 (28 : Int32).toNatClampNeg))) (pg_si M 207 0 0))
    (k11 : (¬ v1 = 0) → (¬ v1 = 1) → (¬ v1 = 2) → (¬ v1 = 3) → (¬ v1 = 4) → (¬ v1 = 5) → (¬ v1 = 6) → (¬ v1 = 7) → (¬ v1 = 8) → (¬ v1 = 9) → (¬ v1 = 10) → (v1 = 11) → P (some (.int ((pg_si M 207 0 0).1 207 23))) (pg_si M 207 0 0))
    (k12 : (¬ v1 = 0) → (¬ v1 = 1) → (¬ v1 = 2) → (¬ v1 = 3) → (¬ v1 = 4) → (¬ v1 = 5) → (¬ v1 = 6) → (¬ v1 = 7) → (¬ v1 = 8) → (¬ v1 = 9) → (¬ v1 = 10) → (¬ v1 = 11) → (v1 = 12) → P (some (.int ((pg_si M 207 0 0).1 207 2))) (pg_si M 207 0 0))
    (k13 : (¬ v1 = 0) → (¬ v1 = 1) → (¬ v1 = 2) → (¬ v1 = 3) → (¬ v1 = 4) → (¬ v1 = 5) → (¬ v1 = 6) → (¬ v1 = 7) → (¬ v1 = 8) → (¬ v1 = 9) → (¬ v1 = 10) → (¬ v1 = 11) → (¬ v1 = 12) → P (some (.int (-1))) (pg_si M 207 0 0)) :
    pg_At S Λ YX11_count (d + 1) 0 [(0, .ref 207), (1, .int v1)] [] M P := by
  refine pg_aload_n (pc := 0) (i := 0) (j := 0) (x := 207) dX11_count_0 rfl rfl ?_
  refine pg_iconst (pc := 1) (v := 0) dX11_count_1 (by decide) ?_
  refine pfX11_1 (pc := 2) rfl h0 dX11_count_2 ?_
  refine pg_iload_n (pc := 5) (i := 1) (j := 1) (x := v1) dX11_count_5 rfl rfl ?_
  by_cases c0 : v1 = 0
  · refine pg_tableIn (pc := 6) (tgt := 72) dX11_count_6 (by rw [c0]; decide) (by rw [c0]; decide) (by rw [c0]; rfl) (by decide) ?_
    refine pg_aload_n (pc := 72) (i := 0) (j := 0) (x := 207) dX11_count_72 rfl rfl ?_
    refine pg_callV (pc := 73) (As := []) (st := []) okX11_cloths lkX11_292 rfl h0.1 rfl (Nat.le_refl _) (Nat.le_of_ble_eq_true rfl) (e0 c0) dX11_count_73 (fun r1 M1 w1 => ?_)
    obtain ⟨x1, rfl, w1⟩ := w1
    exact pg_iret (pc := 76) rfl dX11_count_76 (k0 c0 x1 M1 w1)
  by_cases c1 : v1 = 1
  · refine pg_tableIn (pc := 6) (tgt := 77) dX11_count_6 (by rw [c1]; decide) (by rw [c1]; decide) (by rw [c1]; rfl) (by decide) ?_
    refine pg_aload_n (pc := 77) (i := 0) (j := 0) (x := 207) dX11_count_77 rfl rfl ?_
    refine gfX11_113 (pc := 78) rfl h0 dX11_count_78 ?_
    refine pg_iconst (pc := 81) (v := 1) dX11_count_81 (by decide) ?_
    refine pg_iald (pc := 82) h0.2.2.2.2.2.2.2.2.2.2.2.2.2.2.1 (by unfold vp_in; decide) dX11_count_82 ?_
    exact pg_iret (pc := 83) rfl dX11_count_83 (k1 c0 c1)
  by_cases c2 : v1 = 2
  · refine pg_tableIn (pc := 6) (tgt := 84) dX11_count_6 (by rw [c2]; decide) (by rw [c2]; decide) (by rw [c2]; rfl) (by decide) ?_
    refine pg_aload_n (pc := 84) (i := 0) (j := 0) (x := 207) dX11_count_84 rfl rfl ?_
    refine gfX11_89 (pc := 85) rfl h0 dX11_count_85 ?_
    refine pg_iconst (pc := 88) (v := 3) dX11_count_88 (by decide) ?_
    refine pg_iald (pc := 89) h0.2.2.2.2.2.2.1 (by unfold vp_in; decide) dX11_count_89 ?_
    exact pg_iret (pc := 90) rfl dX11_count_90 (k2 c0 c1 c2)
  by_cases c3 : v1 = 3
  · refine pg_tableIn (pc := 6) (tgt := 91) dX11_count_6 (by rw [c3]; decide) (by rw [c3]; decide) (by rw [c3]; rfl) (by decide) ?_
    refine pg_aload_n (pc := 91) (i := 0) (j := 0) (x := 207) dX11_count_91 rfl rfl ?_
    refine pg_iconst (pc := 92) (v := 0) dX11_count_92 (by decide) ?_
    refine pg_callV (pc := 93) (As := [.int 0]) (st := []) okX11_roomLeft lkX11_364 rfl h0.1 rfl (Nat.le_refl _) (Nat.le_of_ble_eq_true rfl) (e1 c0 c1 c2 c3) dX11_count_93 (fun r2 M2 w2 => ?_)
    obtain ⟨x2, rfl, w2⟩ := w2
    exact pg_iret (pc := 96) rfl dX11_count_96 (k3 c0 c1 c2 c3 x2 M2 w2)
  by_cases c4 : v1 = 4
  · refine pg_tableIn (pc := 6) (tgt := 97) dX11_count_6 (by rw [c4]; decide) (by rw [c4]; decide) (by rw [c4]; rfl) (by decide) ?_
    refine pg_aload_n (pc := 97) (i := 0) (j := 0) (x := 207) dX11_count_97 rfl rfl ?_
    refine gfX11_113 (pc := 98) rfl h0 dX11_count_98 ?_
    refine pg_iconst (pc := 101) (v := 0) dX11_count_101 (by decide) ?_
    refine pg_iald (pc := 102) h0.2.2.2.2.2.2.2.2.2.2.2.2.2.2.1 (by unfold vp_in; decide) dX11_count_102 ?_
    exact pg_iret (pc := 103) rfl dX11_count_103 (k4 c0 c1 c2 c3 c4)
  by_cases c5 : v1 = 5
  · refine pg_tableIn (pc := 6) (tgt := 104) dX11_count_6 (by rw [c5]; decide) (by rw [c5]; decide) (by rw [c5]; rfl) (by decide) ?_
    refine pg_aload_n (pc := 104) (i := 0) (j := 0) (x := 207) dX11_count_104 rfl rfl ?_
    refine pg_aload_n (pc := 105) (i := 0) (j := 0) (x := 207) dX11_count_105 rfl rfl ?_
    refine gfX11_113 (pc := 106) rfl h0 dX11_count_106 ?_
    refine pg_iconst (pc := 109) (v := 0) dX11_count_109 (by decide) ?_
    refine pg_iald (pc := 110) h0.2.2.2.2.2.2.2.2.2.2.2.2.2.2.1 (by unfold vp_in; decide) dX11_count_110 ?_
    refine pg_iconst (pc := 111) (v := 0) dX11_count_111 (by decide) ?_
    refine pg_callV (pc := 112) (As := [.int ((pg_si M 207 0 0).1 221 (0 : Int32).toNatClampNeg), .int 0]) (st := []) okX11_windOf lkX11_332 rfl h0.1 rfl (Nat.le_refl _) (Nat.le_of_ble_eq_true rfl) (e2 c0 c1 c2 c3 c4 c5) dX11_count_112 (fun r3 M3 w3 => ?_)
    obtain ⟨x3, rfl, w3⟩ := w3
    exact pg_iret (pc := 115) rfl dX11_count_115 (k5 c0 c1 c2 c3 c4 c5 x3 M3 w3)
  by_cases c6 : v1 = 6
  · refine pg_tableIn (pc := 6) (tgt := 116) dX11_count_6 (by rw [c6]; decide) (by rw [c6]; decide) (by rw [c6]; rfl) (by decide) ?_
    refine pg_aload_n (pc := 116) (i := 0) (j := 0) (x := 207) dX11_count_116 rfl rfl ?_
    refine pg_aload_n (pc := 117) (i := 0) (j := 0) (x := 207) dX11_count_117 rfl rfl ?_
    refine pg_iconst (pc := 118) (v := 0) dX11_count_118 (by decide) ?_
    refine pg_callV (pc := 119) (As := [.int 0]) (st := [.ref 207]) okX11_lawsOf lkX11_358 rfl h0.1 rfl (Nat.le_refl _) (Nat.le_of_ble_eq_true rfl) (e3 c0 c1 c2 c3 c4 c5 c6) dX11_count_119 (fun r4 M4 w4 => ?_)
    obtain ⟨x4, rfl, w4⟩ := w4
    refine pg_callV (pc := 122) (As := [.int x4]) (st := []) okX11_worthOf lkX11_385 rfl h0.1 rfl (Nat.le_refl _) (Nat.le_of_ble_eq_true rfl) (e4 c0 c1 c2 c3 c4 c5 c6 x4 M4 w4) dX11_count_122 (fun r5 M5 w5 => ?_)
    obtain ⟨x5, rfl, w5⟩ := w5
    exact pg_iret (pc := 125) rfl dX11_count_125 (k6 c0 c1 c2 c3 c4 c5 c6 x4 M4 w4 x5 M5 w5)
  by_cases c7 : v1 = 7
  · refine pg_tableIn (pc := 6) (tgt := 126) dX11_count_6 (by rw [c7]; decide) (by rw [c7]; decide) (by rw [c7]; rfl) (by decide) ?_
    refine pg_aload_n (pc := 126) (i := 0) (j := 0) (x := 207) dX11_count_126 rfl rfl ?_
    refine pg_callV (pc := 127) (As := []) (st := []) okX11_turnedSet lkX11_452 rfl h0.1 rfl (Nat.le_refl _) (Nat.le_of_ble_eq_true rfl) (e5 c0 c1 c2 c3 c4 c5 c6 c7) dX11_count_127 (fun r6 M6 w6 => ?_)
    obtain ⟨x6, rfl, w6⟩ := w6
    exact pg_iret (pc := 130) rfl dX11_count_130 (k7 c0 c1 c2 c3 c4 c5 c6 c7 x6 M6 w6)
  by_cases c8 : v1 = 8
  · refine pg_tableIn (pc := 6) (tgt := 131) dX11_count_6 (by rw [c8]; decide) (by rw [c8]; decide) (by rw [c8]; rfl) (by decide) ?_
    refine pg_aload_n (pc := 131) (i := 0) (j := 0) (x := 207) dX11_count_131 rfl rfl ?_
    refine gfX11_89 (pc := 132) rfl h0 dX11_count_132 ?_
    refine pg_iconst (pc := 135) (v := 5) dX11_count_135 (by decide) ?_
    refine pg_iald (pc := 136) h0.2.2.2.2.2.2.1 (by unfold vp_in; decide) dX11_count_136 ?_
    exact pg_iret (pc := 137) rfl dX11_count_137 (k8 c0 c1 c2 c3 c4 c5 c6 c7 c8)
  by_cases c9 : v1 = 9
  · refine pg_tableIn (pc := 6) (tgt := 138) dX11_count_6 (by rw [c9]; decide) (by rw [c9]; decide) (by rw [c9]; rfl) (by decide) ?_
    refine pg_aload_n (pc := 138) (i := 0) (j := 0) (x := 207) dX11_count_138 rfl rfl ?_
    refine gfX11_104 (pc := 139) rfl h0 dX11_count_139 ?_
    refine pg_iconst (pc := 142) (v := 0) dX11_count_142 (by decide) ?_
    refine pg_iald (pc := 143) h0.2.2.2.2.2.2.2.2.2.2.2.1 (by unfold vp_in; decide) dX11_count_143 ?_
    exact pg_iret (pc := 144) rfl dX11_count_144 (k9 c0 c1 c2 c3 c4 c5 c6 c7 c8 c9)
  by_cases c10 : v1 = 10
  · refine pg_tableIn (pc := 6) (tgt := 145) dX11_count_6 (by rw [c10]; decide) (by rw [c10]; decide) (by rw [c10]; rfl) (by decide) ?_
    refine pg_aload_n (pc := 145) (i := 0) (j := 0) (x := 207) dX11_count_145 rfl rfl ?_
    refine gfX11_113 (pc := 146) rfl h0 dX11_count_146 ?_
    refine pg_bipush (pc := 149) (v := 28) dX11_count_149 (by decide) ?_
    refine pg_iald (pc := 151) h0.2.2.2.2.2.2.2.2.2.2.2.2.2.2.1 (by unfold vp_in; decide) dX11_count_151 ?_
    exact pg_iret (pc := 152) rfl dX11_count_152 (k10 c0 c1 c2 c3 c4 c5 c6 c7 c8 c9 c10)
  by_cases c11 : v1 = 11
  · refine pg_tableIn (pc := 6) (tgt := 153) dX11_count_6 (by rw [c11]; decide) (by rw [c11]; decide) (by rw [c11]; rfl) (by decide) ?_
    refine pg_aload_n (pc := 153) (i := 0) (j := 0) (x := 207) dX11_count_153 rfl rfl ?_
    refine gfX11_285 (pc := 154) rfl h0 dX11_count_154 ?_
    exact pg_iret (pc := 157) rfl dX11_count_157 (k11 c0 c1 c2 c3 c4 c5 c6 c7 c8 c9 c10 c11)
  by_cases c12 : v1 = 12
  · refine pg_tableIn (pc := 6) (tgt := 158) dX11_count_6 (by rw [c12]; decide) (by rw [c12]; decide) (by rw [c12]; rfl) (by decide) ?_
    refine pg_aload_n (pc := 158) (i := 0) (j := 0) (x := 207) dX11_count_158 rfl rfl ?_
    refine gfX11_11 (pc := 159) rfl h0 dX11_count_159 ?_
    exact pg_iret (pc := 162) rfl dX11_count_162 (k12 c0 c1 c2 c3 c4 c5 c6 c7 c8 c9 c10 c11 c12)
  have g0 : v1.toInt ≠ 0 := pg_ne c0 (by decide)
  have g1 : v1.toInt ≠ 1 := pg_ne c1 (by decide)
  have g2 : v1.toInt ≠ 2 := pg_ne c2 (by decide)
  have g3 : v1.toInt ≠ 3 := pg_ne c3 (by decide)
  have g4 : v1.toInt ≠ 4 := pg_ne c4 (by decide)
  have g5 : v1.toInt ≠ 5 := pg_ne c5 (by decide)
  have g6 : v1.toInt ≠ 6 := pg_ne c6 (by decide)
  have g7 : v1.toInt ≠ 7 := pg_ne c7 (by decide)
  have g8 : v1.toInt ≠ 8 := pg_ne c8 (by decide)
  have g9 : v1.toInt ≠ 9 := pg_ne c9 (by decide)
  have g10 : v1.toInt ≠ 10 := pg_ne c10 (by decide)
  have g11 : v1.toInt ≠ 11 := pg_ne c11 (by decide)
  have g12 : v1.toInt ≠ 12 := pg_ne c12 (by decide)
  refine pg_tableOut (pc := 6) (tgt := 163) dX11_count_6 (by omega) (by decide) ?_
  refine pg_iconst (pc := 163) (v := (-1)) dX11_count_163 (by decide) ?_
  exact pg_iret (pc := 164) rfl dX11_count_164 (k13 c0 c1 c2 c3 c4 c5 c6 c7 c8 c9 c10 c11 c12)
theorem oX11_count {d : Nat} {v1 : Int32} (h : pg_At S Λ YX11_count d 0 [(0, .ref 207), (1, .int v1)] [] M P) : pg_Ev S Λ YX11_count d [.ref 207, .int v1] M P := pg_Ev.of (by decide) (by first | decide | exact Nat.le_of_ble_eq_true rfl) h

end PGS

