section PGS
variable {S : pg_S} {Λ : pg_L} {d : Nat} {M : pg_M} {P : Option Value → pg_M → Prop}

theorem sX7_addSigns_0 {v1 : Int64} 
    (k0 : pg_At S Λ YX7_addSigns d 3 [(0, .ref 1), (1, .long v1), (3, .int 56)] [] M P) :
    pg_At S Λ YX7_addSigns d 0 [(0, .ref 1), (1, .long v1)] [] M P := by
  refine pg_bipush (pc := 0) (v := 56) dX7_addSigns_0 (by decide) ?_
  refine pg_istore_n (pc := 2) (i := 3) (ls' := [(3, .int 56), (0, .ref 1), (1, .long v1)]) dX7_addSigns_2 rfl (by decide) rfl ?_
  refine pg_drop (ks := [1, 2, 0]) (ls' := [(0, .ref 1), (1, .long v1), (3, .int 56)]) rfl ?_
  exact k0
theorem sX7_addSigns_3 {v1 : Int64} {v3 : Int32} 
    (h0 : pg_isX7 Λ)
    (k0 : (v3 < 0) → P none M)
    (k1 : (¬ v3 < 0) → (((((v1.toUInt64 >>> (v3.toInt64.toUInt64 &&& Int64.toUInt64 63)).toInt64) &&& 255).toInt32) = 10) → ((Int32.ofNat 1000) ≤ (M.1 1 1)) → pg_At S Λ YX7_addSigns d 3 [(0, .ref 1), (1, .long v1), (3, .int (v3 + (-8)))] [] M P)
    (b0 : (¬ v3 < 0) → (((((v1.toUInt64 >>> (v3.toInt64.toUInt64 &&& Int64.toUInt64 63)).toInt64) &&& 255).toInt32) = 10) → (¬ (Int32.ofNat 1000) ≤ (M.1 1 1)) → vp_in (M.1 1 1) 1000)
    (k2 : (¬ v3 < 0) → (((((v1.toUInt64 >>> (v3.toInt64.toUInt64 &&& Int64.toUInt64 63)).toInt64) &&& 255).toInt32) = 10) → (¬ (Int32.ofNat 1000) ≤ (M.1 1 1)) → ∀ N1, N1 = pg_si M 2 (M.1 1 1).toNatClampNeg (vp_nar .char ((((((v1.toUInt64 >>> (v3.toInt64.toUInt64 &&& Int64.toUInt64 63)).toInt64) &&& 255).toInt32).toUInt32 % 65536).toInt32)) → pg_At S Λ YX7_addSigns d 3 [(0, .ref 1), (1, .long v1), (3, .int (v3 + (-8)))] [] (pg_si N1 1 1 ((N1.1 1 1) + 1)) P)
    (k3 : (¬ v3 < 0) → (¬ ((((v1.toUInt64 >>> (v3.toInt64.toUInt64 &&& Int64.toUInt64 63)).toInt64) &&& 255).toInt32) = 10) → (((((v1.toUInt64 >>> (v3.toInt64.toUInt64 &&& Int64.toUInt64 63)).toInt64) &&& 255).toInt32) < 32) → pg_At S Λ YX7_addSigns d 3 [(0, .ref 1), (1, .long v1), (3, .int (v3 + (-8)))] [] M P)
    (k4 : (¬ v3 < 0) → (¬ ((((v1.toUInt64 >>> (v3.toInt64.toUInt64 &&& Int64.toUInt64 63)).toInt64) &&& 255).toInt32) = 10) → (¬ ((((v1.toUInt64 >>> (v3.toInt64.toUInt64 &&& Int64.toUInt64 63)).toInt64) &&& 255).toInt32) < 32) → (126 < ((((v1.toUInt64 >>> (v3.toInt64.toUInt64 &&& Int64.toUInt64 63)).toInt64) &&& 255).toInt32)) → pg_At S Λ YX7_addSigns d 3 [(0, .ref 1), (1, .long v1), (3, .int (v3 + (-8)))] [] M P)
    (k5 : (¬ v3 < 0) → (¬ ((((v1.toUInt64 >>> (v3.toInt64.toUInt64 &&& Int64.toUInt64 63)).toInt64) &&& 255).toInt32) = 10) → (¬ ((((v1.toUInt64 >>> (v3.toInt64.toUInt64 &&& Int64.toUInt64 63)).toInt64) &&& 255).toInt32) < 32) → (¬ 126 < ((((v1.toUInt64 >>> (v3.toInt64.toUInt64 &&& Int64.toUInt64 63)).toInt64) &&& 255).toInt32)) → ((Int32.ofNat 1000) ≤ (M.1 1 1)) → pg_At S Λ YX7_addSigns d 3 [(0, .ref 1), (1, .long v1), (3, .int (v3 + (-8)))] [] M P)
    (b1 : (¬ v3 < 0) → (¬ ((((v1.toUInt64 >>> (v3.toInt64.toUInt64 &&& Int64.toUInt64 63)).toInt64) &&& 255).toInt32) = 10) → (¬ ((((v1.toUInt64 >>> (v3.toInt64.toUInt64 &&& Int64.toUInt64 63)).toInt64) &&& 255).toInt32) < 32) → (¬ 126 < ((((v1.toUInt64 >>> (v3.toInt64.toUInt64 &&& Int64.toUInt64 63)).toInt64) &&& 255).toInt32)) → (¬ (Int32.ofNat 1000) ≤ (M.1 1 1)) → vp_in (M.1 1 1) 1000)
    (k6 : (¬ v3 < 0) → (¬ ((((v1.toUInt64 >>> (v3.toInt64.toUInt64 &&& Int64.toUInt64 63)).toInt64) &&& 255).toInt32) = 10) → (¬ ((((v1.toUInt64 >>> (v3.toInt64.toUInt64 &&& Int64.toUInt64 63)).toInt64) &&& 255).toInt32) < 32) → (¬ 126 < ((((v1.toUInt64 >>> (v3.toInt64.toUInt64 &&& Int64.toUInt64 63)).toInt64) &&& 255).toInt32)) → (¬ (Int32.ofNat 1000) ≤ (M.1 1 1)) → ∀ N2, N2 = pg_si M 2 (M.1 1 1).toNatClampNeg (vp_nar .char ((((((v1.toUInt64 >>> (v3.toInt64.toUInt64 &&& Int64.toUInt64 63)).toInt64) &&& 255).toInt32).toUInt32 % 65536).toInt32)) → pg_At S Λ YX7_addSigns d 3 [(0, .ref 1), (1, .long v1), (3, .int (v3 + (-8)))] [] (pg_si N2 1 1 ((N2.1 1 1) + 1)) P) :
    pg_At S Λ YX7_addSigns d 3 [(0, .ref 1), (1, .long v1), (3, .int v3)] [] M P := by
  refine pg_iload_n (pc := 3) (i := 3) (j := 2) (x := v3) dX7_addSigns_3 rfl rfl ?_
  refine pg_if_lt (pc := 4) (tgt := 78) dX7_addSigns_4 (by decide) (fun c0 => ?_) (fun c0 => ?_)
  · skip
    exact pg_vret (pc := 78) rfl dX7_addSigns_78 (k0 c0)
  · skip
    refine pg_lload_n (pc := 7) (i := 1) (j := 1) (x := v1) dX7_addSigns_7 rfl rfl ?_
    refine pg_iload_n (pc := 8) (i := 3) (j := 2) (x := v3) dX7_addSigns_8 rfl rfl ?_
    refine pg_lushr (pc := 9) dX7_addSigns_9 rfl ?_
    refine pg_ldc2 (pc := 10) (v := 255) kX7_15 dX7_addSigns_10 ?_
    refine pg_land (pc := 13) dX7_addSigns_13 ?_
    refine pg_l2i (pc := 14) dX7_addSigns_14 rfl ?_
    refine pg_istore (pc := 15) (i := 4) (ls' := [(4, .int ((((v1.toUInt64 >>> (v3.toInt64.toUInt64 &&& Int64.toUInt64 63)).toInt64) &&& 255).toInt32)), (0, .ref 1), (1, .long v1), (3, .int v3)]) dX7_addSigns_15 (by decide) rfl ?_
    refine pg_iload (pc := 17) (i := 4) (j := 0) (x := (((v1.toUInt64 >>> (v3.toInt64.toUInt64 &&& Int64.toUInt64 63)).toInt64) &&& 255).toInt32) dX7_addSigns_17 rfl ?_
    refine pg_bipush (pc := 19) (v := 10) dX7_addSigns_19 (by decide) ?_
    refine pg_icmp_eq (pc := 21) (tgt := 38) dX7_addSigns_21 (by decide) (fun c1 => ?_) (fun c1 => ?_)
    · skip
      refine pg_aload_n (pc := 38) (i := 0) (j := 1) (x := 1) dX7_addSigns_38 rfl rfl ?_
      refine gfX7_17 (pc := 39) rfl h0 dX7_addSigns_39 ?_
      refine pg_aload_n (pc := 42) (i := 0) (j := 1) (x := 1) dX7_addSigns_42 rfl rfl ?_
      refine gfX7_9 (pc := 43) rfl h0 dX7_addSigns_43 ?_
      refine pg_alen (pc := 46) h0.2 3 rfl dX7_addSigns_46 ?_
      refine pg_icmp_ge (pc := 47) (tgt := 72) dX7_addSigns_47 (by decide) (fun c2 => ?_) (fun c2 => ?_)
      · skip
        refine pg_iinc (pc := 72) (i := 3) (j := 3) (x := v3) (v := v3 + (-8)) (ls' := [(3, .int (v3 + (-8))), (4, .int ((((v1.toUInt64 >>> (v3.toInt64.toUInt64 &&& Int64.toUInt64 63)).toInt64) &&& 255).toInt32)), (0, .ref 1), (1, .long v1)]) dX7_addSigns_72 rfl rfl (by decide) rfl ?_
        refine pg_goto (pc := 75) (tgt := 3) dX7_addSigns_75 (by decide) ?_
        refine pg_drop (ks := [2, 3, 0]) (ls' := [(0, .ref 1), (1, .long v1), (3, .int (v3 + (-8)))]) rfl ?_
        exact k1 c0 c1 c2
      · skip
        refine pg_aload_n (pc := 50) (i := 0) (j := 1) (x := 1) dX7_addSigns_50 rfl rfl ?_
        refine gfX7_9 (pc := 51) rfl h0 dX7_addSigns_51 ?_
        refine pg_aload_n (pc := 54) (i := 0) (j := 1) (x := 1) dX7_addSigns_54 rfl rfl ?_
        refine gfX7_17 (pc := 55) rfl h0 dX7_addSigns_55 ?_
        refine pg_iload (pc := 58) (i := 4) (j := 0) (x := (((v1.toUInt64 >>> (v3.toInt64.toUInt64 &&& Int64.toUInt64 63)).toInt64) &&& 255).toInt32) dX7_addSigns_58 rfl ?_
        refine pg_i2c (pc := 60) dX7_addSigns_60 rfl ?_
        refine pg_cast (pc := 61) h0.2 (b0 c0 c1 c2) dX7_addSigns_61 ?_
        refine pg_named (fun N1 u1 => ?_)
        refine pg_aload_n (pc := 62) (i := 0) (j := 1) (x := 1) dX7_addSigns_62 rfl rfl ?_
        refine pg_dup (pc := 63) dX7_addSigns_63 rfl ?_
        refine gfX7_17 (pc := 64) rfl h0 dX7_addSigns_64 ?_
        refine pg_iconst (pc := 67) (v := 1) dX7_addSigns_67 (by decide) ?_
        refine pg_iadd (pc := 68) dX7_addSigns_68 ?_
        refine pfX7_17 (pc := 69) rfl h0 dX7_addSigns_69 ?_
        refine pg_iinc (pc := 72) (i := 3) (j := 3) (x := v3) (v := v3 + (-8)) (ls' := [(3, .int (v3 + (-8))), (4, .int ((((v1.toUInt64 >>> (v3.toInt64.toUInt64 &&& Int64.toUInt64 63)).toInt64) &&& 255).toInt32)), (0, .ref 1), (1, .long v1)]) dX7_addSigns_72 rfl rfl (by decide) rfl ?_
        refine pg_goto (pc := 75) (tgt := 3) dX7_addSigns_75 (by decide) ?_
        refine pg_drop (ks := [2, 3, 0]) (ls' := [(0, .ref 1), (1, .long v1), (3, .int (v3 + (-8)))]) rfl ?_
        exact k2 c0 c1 c2 N1 u1
    · skip
      refine pg_iload (pc := 24) (i := 4) (j := 0) (x := (((v1.toUInt64 >>> (v3.toInt64.toUInt64 &&& Int64.toUInt64 63)).toInt64) &&& 255).toInt32) dX7_addSigns_24 rfl ?_
      refine pg_bipush (pc := 26) (v := 32) dX7_addSigns_26 (by decide) ?_
      refine pg_icmp_lt (pc := 28) (tgt := 72) dX7_addSigns_28 (by decide) (fun c2 => ?_) (fun c2 => ?_)
      · skip
        refine pg_iinc (pc := 72) (i := 3) (j := 3) (x := v3) (v := v3 + (-8)) (ls' := [(3, .int (v3 + (-8))), (4, .int ((((v1.toUInt64 >>> (v3.toInt64.toUInt64 &&& Int64.toUInt64 63)).toInt64) &&& 255).toInt32)), (0, .ref 1), (1, .long v1)]) dX7_addSigns_72 rfl rfl (by decide) rfl ?_
        refine pg_goto (pc := 75) (tgt := 3) dX7_addSigns_75 (by decide) ?_
        refine pg_drop (ks := [2, 3, 0]) (ls' := [(0, .ref 1), (1, .long v1), (3, .int (v3 + (-8)))]) rfl ?_
        exact k3 c0 c1 c2
      · skip
        refine pg_iload (pc := 31) (i := 4) (j := 0) (x := (((v1.toUInt64 >>> (v3.toInt64.toUInt64 &&& Int64.toUInt64 63)).toInt64) &&& 255).toInt32) dX7_addSigns_31 rfl ?_
        refine pg_bipush (pc := 33) (v := 126) dX7_addSigns_33 (by decide) ?_
        refine pg_icmp_gt (pc := 35) (tgt := 72) dX7_addSigns_35 (by decide) (fun c3 => ?_) (fun c3 => ?_)
        · skip
          refine pg_iinc (pc := 72) (i := 3) (j := 3) (x := v3) (v := v3 + (-8)) (ls' := [(3, .int (v3 + (-8))), (4, .int ((((v1.toUInt64 >>> (v3.toInt64.toUInt64 &&& Int64.toUInt64 63)).toInt64) &&& 255).toInt32)), (0, .ref 1), (1, .long v1)]) dX7_addSigns_72 rfl rfl (by decide) rfl ?_
          refine pg_goto (pc := 75) (tgt := 3) dX7_addSigns_75 (by decide) ?_
          refine pg_drop (ks := [2, 3, 0]) (ls' := [(0, .ref 1), (1, .long v1), (3, .int (v3 + (-8)))]) rfl ?_
          exact k4 c0 c1 c2 c3
        · skip
          refine pg_aload_n (pc := 38) (i := 0) (j := 1) (x := 1) dX7_addSigns_38 rfl rfl ?_
          refine gfX7_17 (pc := 39) rfl h0 dX7_addSigns_39 ?_
          refine pg_aload_n (pc := 42) (i := 0) (j := 1) (x := 1) dX7_addSigns_42 rfl rfl ?_
          refine gfX7_9 (pc := 43) rfl h0 dX7_addSigns_43 ?_
          refine pg_alen (pc := 46) h0.2 3 rfl dX7_addSigns_46 ?_
          refine pg_icmp_ge (pc := 47) (tgt := 72) dX7_addSigns_47 (by decide) (fun c4 => ?_) (fun c4 => ?_)
          · skip
            refine pg_iinc (pc := 72) (i := 3) (j := 3) (x := v3) (v := v3 + (-8)) (ls' := [(3, .int (v3 + (-8))), (4, .int ((((v1.toUInt64 >>> (v3.toInt64.toUInt64 &&& Int64.toUInt64 63)).toInt64) &&& 255).toInt32)), (0, .ref 1), (1, .long v1)]) dX7_addSigns_72 rfl rfl (by decide) rfl ?_
            refine pg_goto (pc := 75) (tgt := 3) dX7_addSigns_75 (by decide) ?_
            refine pg_drop (ks := [2, 3, 0]) (ls' := [(0, .ref 1), (1, .long v1), (3, .int (v3 + (-8)))]) rfl ?_
            exact k5 c0 c1 c2 c3 c4
          · skip
            refine pg_aload_n (pc := 50) (i := 0) (j := 1) (x := 1) dX7_addSigns_50 rfl rfl ?_
            refine gfX7_9 (pc := 51) rfl h0 dX7_addSigns_51 ?_
            refine pg_aload_n (pc := 54) (i := 0) (j := 1) (x := 1) dX7_addSigns_54 rfl rfl ?_
            refine gfX7_17 (pc := 55) rfl h0 dX7_addSigns_55 ?_
            refine pg_iload (pc := 58) (i := 4) (j := 0) (x := (((v1.toUInt64 >>> (v3.toInt64.toUInt64 &&& Int64.toUInt64 63)).toInt64) &&& 255).toInt32) dX7_addSigns_58 rfl ?_
            refine pg_i2c (pc := 60) dX7_addSigns_60 rfl ?_
            refine pg_cast (pc := 61) h0.2 (b1 c0 c1 c2 c3 c4) dX7_addSigns_61 ?_
            refine pg_named (fun N2 u2 => ?_)
            refine pg_aload_n (pc := 62) (i := 0) (j := 1) (x := 1) dX7_addSigns_62 rfl rfl ?_
            refine pg_dup (pc := 63) dX7_addSigns_63 rfl ?_
            refine gfX7_17 (pc := 64) rfl h0 dX7_addSigns_64 ?_
            refine pg_iconst (pc := 67) (v := 1) dX7_addSigns_67 (by decide) ?_
            refine pg_iadd (pc := 68) dX7_addSigns_68 ?_
            refine pfX7_17 (pc := 69) rfl h0 dX7_addSigns_69 ?_
            refine pg_iinc (pc := 72) (i := 3) (j := 3) (x := v3) (v := v3 + (-8)) (ls' := [(3, .int (v3 + (-8))), (4, .int ((((v1.toUInt64 >>> (v3.toInt64.toUInt64 &&& Int64.toUInt64 63)).toInt64) &&& 255).toInt32)), (0, .ref 1), (1, .long v1)]) dX7_addSigns_72 rfl rfl (by decide) rfl ?_
            refine pg_goto (pc := 75) (tgt := 3) dX7_addSigns_75 (by decide) ?_
            refine pg_drop (ks := [2, 3, 0]) (ls' := [(0, .ref 1), (1, .long v1), (3, .int (v3 + (-8)))]) rfl ?_
            exact k6 c0 c1 c2 c3 c4 N2 u2
theorem oX7_addSigns {d : Nat} {v1 : Int64} (h : pg_At S Λ YX7_addSigns d 0 [(0, .ref 1), (1, .long v1)] [] M P) : pg_Ev S Λ YX7_addSigns d [.ref 1, .long v1] M P := pg_Ev.of (by decide) (by first | decide | exact Nat.le_of_ble_eq_true rfl) h
theorem sX7_readLine_0 {v1 : Nat} {Q0 : pg_M → Prop} {Q1 : pg_M → Prop}
    (h0 : pg_isX5 Λ v1)
    (h1 : pg_isX7 Λ)
    (e0 : pg_Ev S Λ YX5_clear d [.ref v1] M (fun r M' => r = none ∧ Q0 M'))
    (e1 : ∀ M1, Q0 M1 → pg_Ev S Λ YX7_begin d [.ref 1] (pg_si M1 1 8 0) (fun r M' => r = none ∧ Q1 M'))
    (k0 : ∀ M1, Q0 M1 → ∀ M2, Q1 M2 → pg_At S Λ YX7_readLine (d + 1) 15 [(0, .ref 1), (1, .ref v1), (2, .int 0)] [] M2 P) :
    pg_At S Λ YX7_readLine (d + 1) 0 [(0, .ref 1), (1, .ref v1)] [] M P := by
  refine pg_aload_n (pc := 0) (i := 1) (j := 1) (x := v1) dX7_readLine_0 rfl rfl ?_
  refine pg_callV (pc := 1) (As := []) (st := []) okX5_clear lkX7_21 rfl h0.1 rfl (Nat.le_refl _) (Nat.le_of_ble_eq_true rfl) e0 dX7_readLine_1 (fun r1 M1 w1 => ?_)
  obtain ⟨rfl, w1⟩ := w1
  refine pg_aload_n (pc := 4) (i := 0) (j := 0) (x := 1) dX7_readLine_4 rfl rfl ?_
  refine pg_iconst (pc := 5) (v := 0) dX7_readLine_5 (by decide) ?_
  refine pfX7_26 (pc := 6) rfl h1 dX7_readLine_6 ?_
  refine pg_aload_n (pc := 9) (i := 0) (j := 0) (x := 1) dX7_readLine_9 rfl rfl ?_
  refine pg_callV (pc := 10) (As := []) (st := []) okX7_begin lkX7_29 rfl h1.1 rfl (Nat.le_refl _) (Nat.le_of_ble_eq_true rfl) (e1 M1 w1) dX7_readLine_10 (fun r2 M2 w2 => ?_)
  obtain ⟨rfl, w2⟩ := w2
  refine pg_iconst (pc := 13) (v := 0) dX7_readLine_13 (by decide) ?_
  refine pg_istore_n (pc := 14) (i := 2) (ls' := [(2, .int 0), (0, .ref 1), (1, .ref v1)]) dX7_readLine_14 rfl (by decide) rfl ?_
  refine pg_drop (ks := [1, 2, 0]) (ls' := [(0, .ref 1), (1, .ref v1), (2, .int 0)]) rfl ?_
  exact k0 M1 w1 M2 w2
theorem sX7_readLine_15 {v1 : Nat} {v2 : Int32} {Q0 : pg_M → Prop}
    (h0 : pg_isX7 Λ)
    (k0 : (1000 ≤ v2) → P (some (.int ((pg_si M 1 1 0).1 1 9))) (pg_si M 1 1 0))
    (k1 : (¬ 1000 ≤ v2) → (¬ (M.1 1 9) = 0) → P (some (.int ((pg_si M 1 1 0).1 1 9))) (pg_si M 1 1 0))
    (k2 : (¬ 1000 ≤ v2) → ((M.1 1 9) = 0) → ((M.1 1 4) = 0) → P (some (.int ((pg_si M 1 1 0).1 1 9))) (pg_si M 1 1 0))
    (e0 : (¬ 1000 ≤ v2) → ((M.1 1 9) = 0) → (¬ (M.1 1 4) = 0) → pg_Ev S Λ YX7_readTold d [.ref 1, .ref v1] M (fun r M' => r = none ∧ Q0 M'))
    (k3 : (¬ 1000 ≤ v2) → ((M.1 1 9) = 0) → (¬ (M.1 1 4) = 0) → ∀ M1, Q0 M1 → pg_At S Λ YX7_readLine (d + 1) 15 [(0, .ref 1), (1, .ref v1), (2, .int (v2 + 1))] [] M1 P) :
    pg_At S Λ YX7_readLine (d + 1) 15 [(0, .ref 1), (1, .ref v1), (2, .int v2)] [] M P := by
  refine pg_iload_n (pc := 15) (i := 2) (j := 2) (x := v2) dX7_readLine_15 rfl rfl ?_
  refine pg_sipush (pc := 16) (v := 1000) dX7_readLine_16 (by decide) ?_
  refine pg_icmp_ge (pc := 19) (tgt := 47) dX7_readLine_19 (by decide) (fun c0 => ?_) (fun c0 => ?_)
  · skip
    refine pg_aload_n (pc := 47) (i := 0) (j := 0) (x := 1) dX7_readLine_47 rfl rfl ?_
    refine pg_iconst (pc := 48) (v := 0) dX7_readLine_48 (by decide) ?_
    refine pfX7_17 (pc := 49) rfl h0 dX7_readLine_49 ?_
    refine pg_aload_n (pc := 52) (i := 0) (j := 0) (x := 1) dX7_readLine_52 rfl rfl ?_
    refine gfX7_32 (pc := 53) rfl h0 dX7_readLine_53 ?_
    exact pg_iret (pc := 56) rfl dX7_readLine_56 (k0 c0)
  · skip
    refine pg_aload_n (pc := 22) (i := 0) (j := 0) (x := 1) dX7_readLine_22 rfl rfl ?_
    refine gfX7_32 (pc := 23) rfl h0 dX7_readLine_23 ?_
    refine pg_if_ne (pc := 26) (tgt := 47) dX7_readLine_26 (by decide) (fun c1 => ?_) (fun c1 => ?_)
    · skip
      refine pg_aload_n (pc := 47) (i := 0) (j := 0) (x := 1) dX7_readLine_47 rfl rfl ?_
      refine pg_iconst (pc := 48) (v := 0) dX7_readLine_48 (by decide) ?_
      refine pfX7_17 (pc := 49) rfl h0 dX7_readLine_49 ?_
      refine pg_aload_n (pc := 52) (i := 0) (j := 0) (x := 1) dX7_readLine_52 rfl rfl ?_
      refine gfX7_32 (pc := 53) rfl h0 dX7_readLine_53 ?_
      exact pg_iret (pc := 56) rfl dX7_readLine_56 (k1 c0 c1)
    · skip
      refine pg_aload_n (pc := 29) (i := 0) (j := 0) (x := 1) dX7_readLine_29 rfl rfl ?_
      refine gfX7_35 (pc := 30) rfl h0 dX7_readLine_30 ?_
      refine pg_if_eq (pc := 33) (tgt := 47) dX7_readLine_33 (by decide) (fun c2 => ?_) (fun c2 => ?_)
      · skip
        refine pg_aload_n (pc := 47) (i := 0) (j := 0) (x := 1) dX7_readLine_47 rfl rfl ?_
        refine pg_iconst (pc := 48) (v := 0) dX7_readLine_48 (by decide) ?_
        refine pfX7_17 (pc := 49) rfl h0 dX7_readLine_49 ?_
        refine pg_aload_n (pc := 52) (i := 0) (j := 0) (x := 1) dX7_readLine_52 rfl rfl ?_
        refine gfX7_32 (pc := 53) rfl h0 dX7_readLine_53 ?_
        exact pg_iret (pc := 56) rfl dX7_readLine_56 (k2 c0 c1 c2)
      · skip
        refine pg_aload_n (pc := 36) (i := 0) (j := 0) (x := 1) dX7_readLine_36 rfl rfl ?_
        refine pg_aload_n (pc := 37) (i := 1) (j := 1) (x := v1) dX7_readLine_37 rfl rfl ?_
        refine pg_callV (pc := 38) (As := [.ref v1]) (st := []) okX7_readTold lkX7_38 rfl h0.1 rfl (Nat.le_refl _) (Nat.le_of_ble_eq_true rfl) (e0 c0 c1 c2) dX7_readLine_38 (fun r1 M1 w1 => ?_)
        obtain ⟨rfl, w1⟩ := w1
        refine pg_iinc (pc := 41) (i := 2) (j := 2) (x := v2) (v := v2 + 1) (ls' := [(2, .int (v2 + 1)), (0, .ref 1), (1, .ref v1)]) dX7_readLine_41 rfl rfl (by decide) rfl ?_
        refine pg_goto (pc := 44) (tgt := 15) dX7_readLine_44 (by decide) ?_
        refine pg_drop (ks := [1, 2, 0]) (ls' := [(0, .ref 1), (1, .ref v1), (2, .int (v2 + 1))]) rfl ?_
        exact k3 c0 c1 c2 M1 w1
theorem oX7_readLine {d : Nat} {v1 : Nat} (h : pg_At S Λ YX7_readLine d 0 [(0, .ref 1), (1, .ref v1)] [] M P) : pg_Ev S Λ YX7_readLine d [.ref 1, .ref v1] M P := pg_Ev.of (by decide) (by first | decide | exact Nat.le_of_ble_eq_true rfl) h
theorem sX7_readDay_0 {v1 : Nat} {v2 : Nat} {Q0 : pg_M → Prop} {Q1 : pg_M → Prop}
    (h0 : pg_isX1 Λ v2)
    (h1 : pg_isX7 Λ)
    (e0 : pg_Ev S Λ YX1_clear d [.ref v2] M (fun r M' => r = none ∧ Q0 M'))
    (e1 : ∀ M1, Q0 M1 → pg_Ev S Λ YX7_begin d [.ref 1] M1 (fun r M' => r = none ∧ Q1 M'))
    (k0 : ∀ M1, Q0 M1 → ∀ M2, Q1 M2 → pg_At S Λ YX7_readDay (d + 1) 10 [(0, .ref 1), (1, .ref v1), (2, .ref v2), (3, .int 0)] [] M2 P) :
    pg_At S Λ YX7_readDay (d + 1) 0 [(0, .ref 1), (1, .ref v1), (2, .ref v2)] [] M P := by
  refine pg_aload_n (pc := 0) (i := 2) (j := 2) (x := v2) dX7_readDay_0 rfl rfl ?_
  refine pg_callV (pc := 1) (As := []) (st := []) okX1_clear lkX7_42 rfl h0.1 rfl (Nat.le_refl _) (Nat.le_of_ble_eq_true rfl) e0 dX7_readDay_1 (fun r1 M1 w1 => ?_)
  obtain ⟨rfl, w1⟩ := w1
  refine pg_aload_n (pc := 4) (i := 0) (j := 0) (x := 1) dX7_readDay_4 rfl rfl ?_
  refine pg_callV (pc := 5) (As := []) (st := []) okX7_begin lkX7_29 rfl h1.1 rfl (Nat.le_refl _) (Nat.le_of_ble_eq_true rfl) (e1 M1 w1) dX7_readDay_5 (fun r2 M2 w2 => ?_)
  obtain ⟨rfl, w2⟩ := w2
  refine pg_iconst (pc := 8) (v := 0) dX7_readDay_8 (by decide) ?_
  refine pg_istore_n (pc := 9) (i := 3) (ls' := [(3, .int 0), (0, .ref 1), (1, .ref v1), (2, .ref v2)]) dX7_readDay_9 rfl (by decide) rfl ?_
  refine pg_drop (ks := [1, 2, 3, 0]) (ls' := [(0, .ref 1), (1, .ref v1), (2, .ref v2), (3, .int 0)]) rfl ?_
  exact k0 M1 w1 M2 w2
theorem sX7_readDay_10 {v1 : Nat} {v2 : Nat} {v3 : Int32} {Q0 : pg_M → Prop}
    (h0 : pg_isX7 Λ)
    (k0 : (1000 ≤ v3) → P (some (.int ((pg_si M 1 1 0).1 1 9))) (pg_si M 1 1 0))
    (k1 : (¬ 1000 ≤ v3) → (¬ (M.1 1 9) = 0) → P (some (.int ((pg_si M 1 1 0).1 1 9))) (pg_si M 1 1 0))
    (k2 : (¬ 1000 ≤ v3) → ((M.1 1 9) = 0) → ((M.1 1 4) = 0) → P (some (.int ((pg_si M 1 1 0).1 1 9))) (pg_si M 1 1 0))
    (e0 : (¬ 1000 ≤ v3) → ((M.1 1 9) = 0) → (¬ (M.1 1 4) = 0) → pg_Ev S Λ YX7_readDone d [.ref 1, .ref v1, .ref v2] M (fun r M' => r = none ∧ Q0 M'))
    (k3 : (¬ 1000 ≤ v3) → ((M.1 1 9) = 0) → (¬ (M.1 1 4) = 0) → ∀ M1, Q0 M1 → pg_At S Λ YX7_readDay (d + 1) 10 [(0, .ref 1), (1, .ref v1), (2, .ref v2), (3, .int (v3 + 1))] [] M1 P) :
    pg_At S Λ YX7_readDay (d + 1) 10 [(0, .ref 1), (1, .ref v1), (2, .ref v2), (3, .int v3)] [] M P := by
  refine pg_iload_n (pc := 10) (i := 3) (j := 3) (x := v3) dX7_readDay_10 rfl rfl ?_
  refine pg_sipush (pc := 11) (v := 1000) dX7_readDay_11 (by decide) ?_
  refine pg_icmp_ge (pc := 14) (tgt := 43) dX7_readDay_14 (by decide) (fun c0 => ?_) (fun c0 => ?_)
  · skip
    refine pg_aload_n (pc := 43) (i := 0) (j := 0) (x := 1) dX7_readDay_43 rfl rfl ?_
    refine pg_iconst (pc := 44) (v := 0) dX7_readDay_44 (by decide) ?_
    refine pfX7_17 (pc := 45) rfl h0 dX7_readDay_45 ?_
    refine pg_aload_n (pc := 48) (i := 0) (j := 0) (x := 1) dX7_readDay_48 rfl rfl ?_
    refine gfX7_32 (pc := 49) rfl h0 dX7_readDay_49 ?_
    exact pg_iret (pc := 52) rfl dX7_readDay_52 (k0 c0)
  · skip
    refine pg_aload_n (pc := 17) (i := 0) (j := 0) (x := 1) dX7_readDay_17 rfl rfl ?_
    refine gfX7_32 (pc := 18) rfl h0 dX7_readDay_18 ?_
    refine pg_if_ne (pc := 21) (tgt := 43) dX7_readDay_21 (by decide) (fun c1 => ?_) (fun c1 => ?_)
    · skip
      refine pg_aload_n (pc := 43) (i := 0) (j := 0) (x := 1) dX7_readDay_43 rfl rfl ?_
      refine pg_iconst (pc := 44) (v := 0) dX7_readDay_44 (by decide) ?_
      refine pfX7_17 (pc := 45) rfl h0 dX7_readDay_45 ?_
      refine pg_aload_n (pc := 48) (i := 0) (j := 0) (x := 1) dX7_readDay_48 rfl rfl ?_
      refine gfX7_32 (pc := 49) rfl h0 dX7_readDay_49 ?_
      exact pg_iret (pc := 52) rfl dX7_readDay_52 (k1 c0 c1)
    · skip
      refine pg_aload_n (pc := 24) (i := 0) (j := 0) (x := 1) dX7_readDay_24 rfl rfl ?_
      refine gfX7_35 (pc := 25) rfl h0 dX7_readDay_25 ?_
      refine pg_if_eq (pc := 28) (tgt := 43) dX7_readDay_28 (by decide) (fun c2 => ?_) (fun c2 => ?_)
      · skip
        refine pg_aload_n (pc := 43) (i := 0) (j := 0) (x := 1) dX7_readDay_43 rfl rfl ?_
        refine pg_iconst (pc := 44) (v := 0) dX7_readDay_44 (by decide) ?_
        refine pfX7_17 (pc := 45) rfl h0 dX7_readDay_45 ?_
        refine pg_aload_n (pc := 48) (i := 0) (j := 0) (x := 1) dX7_readDay_48 rfl rfl ?_
        refine gfX7_32 (pc := 49) rfl h0 dX7_readDay_49 ?_
        exact pg_iret (pc := 52) rfl dX7_readDay_52 (k2 c0 c1 c2)
      · skip
        refine pg_aload_n (pc := 31) (i := 0) (j := 0) (x := 1) dX7_readDay_31 rfl rfl ?_
        refine pg_aload_n (pc := 32) (i := 1) (j := 1) (x := v1) dX7_readDay_32 rfl rfl ?_
        refine pg_aload_n (pc := 33) (i := 2) (j := 2) (x := v2) dX7_readDay_33 rfl rfl ?_
        refine pg_callV (pc := 34) (As := [.ref v1, .ref v2]) (st := []) okX7_readDone lkX7_45 rfl h0.1 rfl (Nat.le_refl _) (Nat.le_of_ble_eq_true rfl) (e0 c0 c1 c2) dX7_readDay_34 (fun r1 M1 w1 => ?_)
        obtain ⟨rfl, w1⟩ := w1
        refine pg_iinc (pc := 37) (i := 3) (j := 3) (x := v3) (v := v3 + 1) (ls' := [(3, .int (v3 + 1)), (0, .ref 1), (1, .ref v1), (2, .ref v2)]) dX7_readDay_37 rfl rfl (by decide) rfl ?_
        refine pg_goto (pc := 40) (tgt := 10) dX7_readDay_40 (by decide) ?_
        refine pg_drop (ks := [1, 2, 3, 0]) (ls' := [(0, .ref 1), (1, .ref v1), (2, .ref v2), (3, .int (v3 + 1))]) rfl ?_
        exact k3 c0 c1 c2 M1 w1
theorem oX7_readDay {d : Nat} {v1 : Nat} {v2 : Nat} (h : pg_At S Λ YX7_readDay d 0 [(0, .ref 1), (1, .ref v1), (2, .ref v2)] [] M P) : pg_Ev S Λ YX7_readDay d [.ref 1, .ref v1, .ref v2] M P := pg_Ev.of (by decide) (by first | decide | exact Nat.le_of_ble_eq_true rfl) h
theorem sX7_begin_0  {Q0 : pg_M → Prop}
    (h0 : pg_isX7 Λ)
    (e0 : pg_Ev S Λ YX7_next d [.ref 1] (pg_si (pg_si M 1 9 0) 1 3 0) (fun r M' => r = none ∧ Q0 M'))
    (k0 : ∀ M1, Q0 M1 → P none M1) :
    pg_At S Λ YX7_begin (d + 1) 0 [(0, .ref 1)] [] M P := by
  refine pg_aload_n (pc := 0) (i := 0) (j := 0) (x := 1) dX7_begin_0 rfl rfl ?_
  refine pg_iconst (pc := 1) (v := 0) dX7_begin_1 (by decide) ?_
  refine pfX7_32 (pc := 2) rfl h0 dX7_begin_2 ?_
  refine pg_aload_n (pc := 5) (i := 0) (j := 0) (x := 1) dX7_begin_5 rfl rfl ?_
  refine pg_iconst (pc := 6) (v := 0) dX7_begin_6 (by decide) ?_
  refine pfX7_49 (pc := 7) rfl h0 dX7_begin_7 ?_
  refine pg_aload_n (pc := 10) (i := 0) (j := 0) (x := 1) dX7_begin_10 rfl rfl ?_
  refine pg_callV (pc := 11) (As := []) (st := []) okX7_next lkX7_52 rfl h0.1 rfl (Nat.le_refl _) (Nat.le_of_ble_eq_true rfl) e0 dX7_begin_11 (fun r1 M1 w1 => ?_)
  obtain ⟨rfl, w1⟩ := w1
  exact pg_vret (pc := 14) rfl dX7_begin_14 (k0 M1 w1)
theorem oX7_begin {d : Nat}  (h : pg_At S Λ YX7_begin d 0 [(0, .ref 1)] [] M P) : pg_Ev S Λ YX7_begin d [.ref 1] M P := pg_Ev.of (by decide) (by first | decide | exact Nat.le_of_ble_eq_true rfl) h
theorem sX7_readTold_0 {v1 : Nat} 
    (h0 : pg_isX7 Λ)
    (k0 : (¬ (M.1 1 4) = 2) → pg_At S Λ YX7_readTold (d + 1) 16 [(0, .ref 1), (1, .ref v1)] [.int (-1)] M P)
    (k1 : ((M.1 1 4) = 2) → pg_At S Λ YX7_readTold (d + 1) 16 [(0, .ref 1), (1, .ref v1)] [.int (M.1 1 7)] M P) :
    pg_At S Λ YX7_readTold (d + 1) 0 [(0, .ref 1), (1, .ref v1)] [] M P := by
  refine pg_aload_n (pc := 0) (i := 0) (j := 0) (x := 1) dX7_readTold_0 rfl rfl ?_
  refine gfX7_35 (pc := 1) rfl h0 dX7_readTold_1 ?_
  refine pg_iconst (pc := 4) (v := 2) dX7_readTold_4 (by decide) ?_
  refine pg_icmp_ne (pc := 5) (tgt := 15) dX7_readTold_5 (by decide) (fun c0 => ?_) (fun c0 => ?_)
  · skip
    refine pg_iconst (pc := 15) (v := (-1)) dX7_readTold_15 (by decide) ?_
    exact k0 c0
  · skip
    refine pg_aload_n (pc := 8) (i := 0) (j := 0) (x := 1) dX7_readTold_8 rfl rfl ?_
    refine gfX7_55 (pc := 9) rfl h0 dX7_readTold_9 ?_
    refine pg_goto (pc := 12) (tgt := 16) dX7_readTold_12 (by decide) ?_
    exact k1 c0
theorem sX7_readTold_16 {v1 : Nat} {s0 : Int32} {Q0 : pg_M → Prop} {Q1 : pg_M → Prop} {Q2 : pg_M → Prop} {Q3 : pg_M → Prop} {Q4 : pg_M → Prop} {Q5 : pg_M → Prop} {Q6 : pg_M → Prop} {Q7 : pg_M → Prop} {Q8 : pg_M → Prop} {Q9 : pg_M → Prop}
    (h0 : pg_isX7 Λ)
    (e0 : (¬ s0 = 0) → (¬ s0 = 8) → (s0 < 4) → pg_Ev S Λ YX7_fail d [.ref 1, .int 1] M (fun r M' => r = none ∧ Q0 M'))
    (e1 : (¬ s0 = 0) → (¬ s0 = 8) → (s0 < 4) → ∀ M1, Q0 M1 → pg_Ev S Λ YX7_expectSign d [.ref 1, .int 59] M1 (fun r M' => r = none ∧ Q1 M'))
    (k0 : (¬ s0 = 0) → (¬ s0 = 8) → (s0 < 4) → ∀ M1, Q0 M1 → ∀ M2, Q1 M2 → P none M2)
    (e2 : (¬ s0 = 0) → (¬ s0 = 8) → (¬ s0 < 4) → (10 < s0) → pg_Ev S Λ YX7_fail d [.ref 1, .int 1] M (fun r M' => r = none ∧ Q2 M'))
    (e3 : (¬ s0 = 0) → (¬ s0 = 8) → (¬ s0 < 4) → (10 < s0) → ∀ M3, Q2 M3 → pg_Ev S Λ YX7_expectSign d [.ref 1, .int 59] M3 (fun r M' => r = none ∧ Q3 M'))
    (k1 : (¬ s0 = 0) → (¬ s0 = 8) → (¬ s0 < 4) → (10 < s0) → ∀ M3, Q2 M3 → ∀ M4, Q3 M4 → P none M4)
    (e4 : (¬ s0 = 0) → (¬ s0 = 8) → (¬ s0 < 4) → (¬ 10 < s0) → pg_Ev S Λ YX7_readOnce d [.ref 1, .ref v1, .int s0] M (fun r M' => r = none ∧ Q4 M'))
    (e5 : (¬ s0 = 0) → (¬ s0 = 8) → (¬ s0 < 4) → (¬ 10 < s0) → ∀ M5, Q4 M5 → pg_Ev S Λ YX7_expectSign d [.ref 1, .int 59] M5 (fun r M' => r = none ∧ Q5 M'))
    (k2 : (¬ s0 = 0) → (¬ s0 = 8) → (¬ s0 < 4) → (¬ 10 < s0) → ∀ M5, Q4 M5 → ∀ M6, Q5 M6 → P none M6)
    (e6 : (¬ s0 = 0) → (s0 = 8) → pg_Ev S Λ YX7_readClash d [.ref 1, .ref v1] M (fun r M' => r = none ∧ Q6 M'))
    (e7 : (¬ s0 = 0) → (s0 = 8) → ∀ M7, Q6 M7 → pg_Ev S Λ YX7_expectSign d [.ref 1, .int 59] M7 (fun r M' => r = none ∧ Q7 M'))
    (k3 : (¬ s0 = 0) → (s0 = 8) → ∀ M7, Q6 M7 → ∀ M8, Q7 M8 → P none M8)
    (e8 : (s0 = 0) → pg_Ev S Λ YX7_readCloth d [.ref 1, .ref v1] M (fun r M' => r = none ∧ Q8 M'))
    (e9 : (s0 = 0) → ∀ M9, Q8 M9 → pg_Ev S Λ YX7_expectSign d [.ref 1, .int 59] M9 (fun r M' => r = none ∧ Q9 M'))
    (k4 : (s0 = 0) → ∀ M9, Q8 M9 → ∀ M10, Q9 M10 → P none M10) :
    pg_At S Λ YX7_readTold (d + 1) 16 [(0, .ref 1), (1, .ref v1)] [.int s0] M P := by
  refine pg_istore_n (pc := 16) (i := 2) (ls' := [(2, .int s0), (0, .ref 1), (1, .ref v1)]) dX7_readTold_16 rfl (by decide) rfl ?_
  refine pg_iload_n (pc := 17) (i := 2) (j := 0) (x := s0) dX7_readTold_17 rfl rfl ?_
  refine pg_if_ne (pc := 18) (tgt := 29) dX7_readTold_18 (by decide) (fun c0 => ?_) (fun c0 => ?_)
  · skip
    refine pg_iload_n (pc := 29) (i := 2) (j := 0) (x := s0) dX7_readTold_29 rfl rfl ?_
    refine pg_bipush (pc := 30) (v := 8) dX7_readTold_30 (by decide) ?_
    refine pg_icmp_ne (pc := 32) (tgt := 43) dX7_readTold_32 (by decide) (fun c1 => ?_) (fun c1 => ?_)
    · skip
      refine pg_iload_n (pc := 43) (i := 2) (j := 0) (x := s0) dX7_readTold_43 rfl rfl ?_
      refine pg_iconst (pc := 44) (v := 4) dX7_readTold_44 (by decide) ?_
      refine pg_icmp_lt (pc := 45) (tgt := 63) dX7_readTold_45 (by decide) (fun c2 => ?_) (fun c2 => ?_)
      · skip
        refine pg_aload_n (pc := 63) (i := 0) (j := 1) (x := 1) dX7_readTold_63 rfl rfl ?_
        refine pg_iconst (pc := 64) (v := 1) dX7_readTold_64 (by decide) ?_
        refine pg_callV (pc := 65) (As := [.int 1]) (st := []) okX7_fail lkX7_68 rfl h0.1 rfl (Nat.le_refl _) (Nat.le_of_ble_eq_true rfl) (e0 c0 c1 c2) dX7_readTold_65 (fun r1 M1 w1 => ?_)
        obtain ⟨rfl, w1⟩ := w1
        refine pg_aload_n (pc := 68) (i := 0) (j := 1) (x := 1) dX7_readTold_68 rfl rfl ?_
        refine pg_bipush (pc := 69) (v := 59) dX7_readTold_69 (by decide) ?_
        refine pg_callV (pc := 71) (As := [.int 59]) (st := []) okX7_expectSign lkX7_72 rfl h0.1 rfl (Nat.le_refl _) (Nat.le_of_ble_eq_true rfl) (e1 c0 c1 c2 M1 w1) dX7_readTold_71 (fun r2 M2 w2 => ?_)
        obtain ⟨rfl, w2⟩ := w2
        exact pg_vret (pc := 74) rfl dX7_readTold_74 (k0 c0 c1 c2 M1 w1 M2 w2)
      · skip
        refine pg_iload_n (pc := 48) (i := 2) (j := 0) (x := s0) dX7_readTold_48 rfl rfl ?_
        refine pg_bipush (pc := 49) (v := 10) dX7_readTold_49 (by decide) ?_
        refine pg_icmp_gt (pc := 51) (tgt := 63) dX7_readTold_51 (by decide) (fun c3 => ?_) (fun c3 => ?_)
        · skip
          refine pg_aload_n (pc := 63) (i := 0) (j := 1) (x := 1) dX7_readTold_63 rfl rfl ?_
          refine pg_iconst (pc := 64) (v := 1) dX7_readTold_64 (by decide) ?_
          refine pg_callV (pc := 65) (As := [.int 1]) (st := []) okX7_fail lkX7_68 rfl h0.1 rfl (Nat.le_refl _) (Nat.le_of_ble_eq_true rfl) (e2 c0 c1 c2 c3) dX7_readTold_65 (fun r3 M3 w3 => ?_)
          obtain ⟨rfl, w3⟩ := w3
          refine pg_aload_n (pc := 68) (i := 0) (j := 1) (x := 1) dX7_readTold_68 rfl rfl ?_
          refine pg_bipush (pc := 69) (v := 59) dX7_readTold_69 (by decide) ?_
          refine pg_callV (pc := 71) (As := [.int 59]) (st := []) okX7_expectSign lkX7_72 rfl h0.1 rfl (Nat.le_refl _) (Nat.le_of_ble_eq_true rfl) (e3 c0 c1 c2 c3 M3 w3) dX7_readTold_71 (fun r4 M4 w4 => ?_)
          obtain ⟨rfl, w4⟩ := w4
          exact pg_vret (pc := 74) rfl dX7_readTold_74 (k1 c0 c1 c2 c3 M3 w3 M4 w4)
        · skip
          refine pg_aload_n (pc := 54) (i := 0) (j := 1) (x := 1) dX7_readTold_54 rfl rfl ?_
          refine pg_aload_n (pc := 55) (i := 1) (j := 2) (x := v1) dX7_readTold_55 rfl rfl ?_
          refine pg_iload_n (pc := 56) (i := 2) (j := 0) (x := s0) dX7_readTold_56 rfl rfl ?_
          refine pg_callV (pc := 57) (As := [.ref v1, .int s0]) (st := []) okX7_readOnce lkX7_64 rfl h0.1 rfl (Nat.le_refl _) (Nat.le_of_ble_eq_true rfl) (e4 c0 c1 c2 c3) dX7_readTold_57 (fun r5 M5 w5 => ?_)
          obtain ⟨rfl, w5⟩ := w5
          refine pg_goto (pc := 60) (tgt := 68) dX7_readTold_60 (by decide) ?_
          refine pg_aload_n (pc := 68) (i := 0) (j := 1) (x := 1) dX7_readTold_68 rfl rfl ?_
          refine pg_bipush (pc := 69) (v := 59) dX7_readTold_69 (by decide) ?_
          refine pg_callV (pc := 71) (As := [.int 59]) (st := []) okX7_expectSign lkX7_72 rfl h0.1 rfl (Nat.le_refl _) (Nat.le_of_ble_eq_true rfl) (e5 c0 c1 c2 c3 M5 w5) dX7_readTold_71 (fun r6 M6 w6 => ?_)
          obtain ⟨rfl, w6⟩ := w6
          exact pg_vret (pc := 74) rfl dX7_readTold_74 (k2 c0 c1 c2 c3 M5 w5 M6 w6)
    · skip
      refine pg_aload_n (pc := 35) (i := 0) (j := 1) (x := 1) dX7_readTold_35 rfl rfl ?_
      refine pg_aload_n (pc := 36) (i := 1) (j := 2) (x := v1) dX7_readTold_36 rfl rfl ?_
      refine pg_callV (pc := 37) (As := [.ref v1]) (st := []) okX7_readClash lkX7_61 rfl h0.1 rfl (Nat.le_refl _) (Nat.le_of_ble_eq_true rfl) (e6 c0 c1) dX7_readTold_37 (fun r7 M7 w7 => ?_)
      obtain ⟨rfl, w7⟩ := w7
      refine pg_goto (pc := 40) (tgt := 68) dX7_readTold_40 (by decide) ?_
      refine pg_aload_n (pc := 68) (i := 0) (j := 1) (x := 1) dX7_readTold_68 rfl rfl ?_
      refine pg_bipush (pc := 69) (v := 59) dX7_readTold_69 (by decide) ?_
      refine pg_callV (pc := 71) (As := [.int 59]) (st := []) okX7_expectSign lkX7_72 rfl h0.1 rfl (Nat.le_refl _) (Nat.le_of_ble_eq_true rfl) (e7 c0 c1 M7 w7) dX7_readTold_71 (fun r8 M8 w8 => ?_)
      obtain ⟨rfl, w8⟩ := w8
      exact pg_vret (pc := 74) rfl dX7_readTold_74 (k3 c0 c1 M7 w7 M8 w8)
  · skip
    refine pg_aload_n (pc := 21) (i := 0) (j := 1) (x := 1) dX7_readTold_21 rfl rfl ?_
    refine pg_aload_n (pc := 22) (i := 1) (j := 2) (x := v1) dX7_readTold_22 rfl rfl ?_
    refine pg_callV (pc := 23) (As := [.ref v1]) (st := []) okX7_readCloth lkX7_58 rfl h0.1 rfl (Nat.le_refl _) (Nat.le_of_ble_eq_true rfl) (e8 c0) dX7_readTold_23 (fun r9 M9 w9 => ?_)
    obtain ⟨rfl, w9⟩ := w9
    refine pg_goto (pc := 26) (tgt := 68) dX7_readTold_26 (by decide) ?_
    refine pg_aload_n (pc := 68) (i := 0) (j := 1) (x := 1) dX7_readTold_68 rfl rfl ?_
    refine pg_bipush (pc := 69) (v := 59) dX7_readTold_69 (by decide) ?_
    refine pg_callV (pc := 71) (As := [.int 59]) (st := []) okX7_expectSign lkX7_72 rfl h0.1 rfl (Nat.le_refl _) (Nat.le_of_ble_eq_true rfl) (e9 c0 M9 w9) dX7_readTold_71 (fun r10 M10 w10 => ?_)
    obtain ⟨rfl, w10⟩ := w10
    exact pg_vret (pc := 74) rfl dX7_readTold_74 (k4 c0 M9 w9 M10 w10)
theorem oX7_readTold {d : Nat} {v1 : Nat} (h : pg_At S Λ YX7_readTold d 0 [(0, .ref 1), (1, .ref v1)] [] M P) : pg_Ev S Λ YX7_readTold d [.ref 1, .ref v1] M P := pg_Ev.of (by decide) (by first | decide | exact Nat.le_of_ble_eq_true rfl) h
theorem sX7_readCloth_0 {v1 : Nat} {Q0 : pg_M → Prop} {Q1 : Int32 → pg_M → Prop} {Q2 : Int32 → pg_M → Prop} {Q3 : pg_M → Prop} {Q4 : pg_M → Prop} {Q5 : pg_M → Prop}
    (h0 : pg_isX5 Λ v1)
    (h1 : pg_isX7 Λ)
    (e0 : ((M.1 v1 10) < 6) → pg_Ev S Λ YX7_next d [.ref 1] M (fun r M' => r = none ∧ Q0 M'))
    (e1 : ((M.1 v1 10) < 6) → ∀ M1, Q0 M1 → pg_Ev S Λ YX7_isName d [.ref 1] M1 (fun r M' => ∃ x, r = some (.int x) ∧ Q1 x M'))
    (e2 : ((M.1 v1 10) < 6) → ∀ M1, Q0 M1 → ∀ x2 M2, Q1 x2 M2 → (¬ x2 = 0) → pg_Ev S Λ YX5_clothNamed d [.ref v1, .long (M2.2.1 1 6)] M2 (fun r M' => ∃ x, r = some (.int x) ∧ Q2 x M'))
    (k0 : ((M.1 v1 10) < 6) → ∀ M1, Q0 M1 → ∀ x2 M2, Q1 x2 M2 → (¬ x2 = 0) → ∀ x3 M3, Q2 x3 M3 → (x3 = (-1)) → pg_At S Λ YX7_readCloth (d + 1) 53 [(0, .ref 1), (1, .ref v1), (2, .int (M.1 v1 10))] [] M3 P)
    (e3 : ((M.1 v1 10) < 6) → ∀ M1, Q0 M1 → ∀ x2 M2, Q1 x2 M2 → (¬ x2 = 0) → ∀ x3 M3, Q2 x3 M3 → (¬ x3 = (-1)) → pg_Ev S Λ YX7_fail d [.ref 1, .int 3] M3 (fun r M' => r = none ∧ Q3 M'))
    (k1 : ((M.1 v1 10) < 6) → ∀ M1, Q0 M1 → ∀ x2 M2, Q1 x2 M2 → (¬ x2 = 0) → ∀ x3 M3, Q2 x3 M3 → (¬ x3 = (-1)) → ∀ M4, Q3 M4 → pg_At S Λ YX7_readCloth (d + 1) 53 [(0, .ref 1), (1, .ref v1), (2, .int (M.1 v1 10))] [] M4 P)
    (e4 : ((M.1 v1 10) < 6) → ∀ M1, Q0 M1 → ∀ x2 M2, Q1 x2 M2 → (x2 = 0) → pg_Ev S Λ YX7_fail d [.ref 1, .int 1] M2 (fun r M' => r = none ∧ Q4 M'))
    (k2 : ((M.1 v1 10) < 6) → ∀ M1, Q0 M1 → ∀ x2 M2, Q1 x2 M2 → (x2 = 0) → ∀ M5, Q4 M5 → pg_At S Λ YX7_readCloth (d + 1) 53 [(0, .ref 1), (1, .ref v1), (2, .int (M.1 v1 10))] [] M5 P)
    (e5 : (¬ (M.1 v1 10) < 6) → pg_Ev S Λ YX7_fail d [.ref 1, .int 5] M (fun r M' => r = none ∧ Q5 M'))
    (k3 : (¬ (M.1 v1 10) < 6) → ∀ M6, Q5 M6 → P none M6) :
    pg_At S Λ YX7_readCloth (d + 1) 0 [(0, .ref 1), (1, .ref v1)] [] M P := by
  refine pg_aload_n (pc := 0) (i := 1) (j := 1) (x := v1) dX7_readCloth_0 rfl rfl ?_
  refine gfX7_75 (pc := 1) rfl h0 dX7_readCloth_1 ?_
  refine pg_istore_n (pc := 4) (i := 2) (ls' := [(2, .int (M.1 v1 10)), (0, .ref 1), (1, .ref v1)]) dX7_readCloth_4 rfl (by decide) rfl ?_
  refine pg_iload_n (pc := 5) (i := 2) (j := 0) (x := (M.1 v1 10)) dX7_readCloth_5 rfl rfl ?_
  refine pg_bipush (pc := 6) (v := 6) dX7_readCloth_6 (by decide) ?_
  refine pg_icmp_lt (pc := 8) (tgt := 17) dX7_readCloth_8 (by decide) (fun c0 => ?_) (fun c0 => ?_)
  · skip
    refine pg_aload_n (pc := 17) (i := 0) (j := 1) (x := 1) dX7_readCloth_17 rfl rfl ?_
    refine pg_callV (pc := 18) (As := []) (st := []) okX7_next lkX7_52 rfl h1.1 rfl (Nat.le_refl _) (Nat.le_of_ble_eq_true rfl) (e0 c0) dX7_readCloth_18 (fun r1 M1 w1 => ?_)
    obtain ⟨rfl, w1⟩ := w1
    refine pg_aload_n (pc := 21) (i := 0) (j := 1) (x := 1) dX7_readCloth_21 rfl rfl ?_
    refine pg_callV (pc := 22) (As := []) (st := []) okX7_isName lkX7_78 rfl h1.1 rfl (Nat.le_refl _) (Nat.le_of_ble_eq_true rfl) (e1 c0 M1 w1) dX7_readCloth_22 (fun r2 M2 w2 => ?_)
    obtain ⟨x2, rfl, w2⟩ := w2
    refine pg_if_ne (pc := 25) (tgt := 36) dX7_readCloth_25 (by decide) (fun c1 => ?_) (fun c1 => ?_)
    · skip
      refine pg_aload_n (pc := 36) (i := 1) (j := 2) (x := v1) dX7_readCloth_36 rfl rfl ?_
      refine pg_aload_n (pc := 37) (i := 0) (j := 1) (x := 1) dX7_readCloth_37 rfl rfl ?_
      refine gfX7_82 (pc := 38) rfl h1 dX7_readCloth_38 ?_
      refine pg_callV (pc := 41) (As := [.long (M2.2.1 1 6)]) (st := []) okX5_clothNamed lkX7_86 rfl h0.1 rfl (Nat.le_refl _) (Nat.le_of_ble_eq_true rfl) (e2 c0 M1 w1 x2 M2 w2 c1) dX7_readCloth_41 (fun r3 M3 w3 => ?_)
      obtain ⟨x3, rfl, w3⟩ := w3
      refine pg_iconst (pc := 44) (v := (-1)) dX7_readCloth_44 (by decide) ?_
      refine pg_icmp_eq (pc := 45) (tgt := 53) dX7_readCloth_45 (by decide) (fun c2 => ?_) (fun c2 => ?_)
      · skip
        refine pg_drop (ks := [1, 2, 0]) (ls' := [(0, .ref 1), (1, .ref v1), (2, .int (M.1 v1 10))]) rfl ?_
        exact k0 c0 M1 w1 x2 M2 w2 c1 x3 M3 w3 c2
      · skip
        refine pg_aload_n (pc := 48) (i := 0) (j := 1) (x := 1) dX7_readCloth_48 rfl rfl ?_
        refine pg_iconst (pc := 49) (v := 3) dX7_readCloth_49 (by decide) ?_
        refine pg_callV (pc := 50) (As := [.int 3]) (st := []) okX7_fail lkX7_68 rfl h1.1 rfl (Nat.le_refl _) (Nat.le_of_ble_eq_true rfl) (e3 c0 M1 w1 x2 M2 w2 c1 x3 M3 w3 c2) dX7_readCloth_50 (fun r4 M4 w4 => ?_)
        obtain ⟨rfl, w4⟩ := w4
        refine pg_drop (ks := [1, 2, 0]) (ls' := [(0, .ref 1), (1, .ref v1), (2, .int (M.1 v1 10))]) rfl ?_
        exact k1 c0 M1 w1 x2 M2 w2 c1 x3 M3 w3 c2 M4 w4
    · skip
      refine pg_aload_n (pc := 28) (i := 0) (j := 1) (x := 1) dX7_readCloth_28 rfl rfl ?_
      refine pg_iconst (pc := 29) (v := 1) dX7_readCloth_29 (by decide) ?_
      refine pg_callV (pc := 30) (As := [.int 1]) (st := []) okX7_fail lkX7_68 rfl h1.1 rfl (Nat.le_refl _) (Nat.le_of_ble_eq_true rfl) (e4 c0 M1 w1 x2 M2 w2 c1) dX7_readCloth_30 (fun r5 M5 w5 => ?_)
      obtain ⟨rfl, w5⟩ := w5
      refine pg_goto (pc := 33) (tgt := 53) dX7_readCloth_33 (by decide) ?_
      refine pg_drop (ks := [1, 2, 0]) (ls' := [(0, .ref 1), (1, .ref v1), (2, .int (M.1 v1 10))]) rfl ?_
      exact k2 c0 M1 w1 x2 M2 w2 c1 M5 w5
  · skip
    refine pg_aload_n (pc := 11) (i := 0) (j := 1) (x := 1) dX7_readCloth_11 rfl rfl ?_
    refine pg_iconst (pc := 12) (v := 5) dX7_readCloth_12 (by decide) ?_
    refine pg_callV (pc := 13) (As := [.int 5]) (st := []) okX7_fail lkX7_68 rfl h1.1 rfl (Nat.le_refl _) (Nat.le_of_ble_eq_true rfl) (e5 c0) dX7_readCloth_13 (fun r6 M6 w6 => ?_)
    obtain ⟨rfl, w6⟩ := w6
    exact pg_vret (pc := 16) rfl dX7_readCloth_16 (k3 c0 M6 w6)
theorem sX7_readCloth_53 {v1 : Nat} {v2 : Int32} {Q0 : pg_M → Prop} {Q1 : pg_M → Prop} {Q2 : pg_M → Prop} {Q3 : Int32 → pg_M → Prop} {Q4 : Int32 → pg_M → Prop} {Q5 : Int32 → pg_M → Prop} {Q6 : pg_M → Prop} {Q7 : pg_M → Prop} {Q8 : Int32 → pg_M → Prop} {Q9 : Int32 → pg_M → Prop} {Q10 : Int32 → pg_M → Prop} {Q11 : pg_M → Prop} {Q12 : Int32 → pg_M → Prop} {Q13 : Int32 → pg_M → Prop} {Q14 : Int32 → pg_M → Prop} {Q15 : pg_M → Prop} {Q16 : pg_M → Prop} {Q17 : Int32 → pg_M → Prop} {Q18 : Int32 → pg_M → Prop} {Q19 : Int32 → pg_M → Prop}
    (h0 : pg_isX5 Λ v1)
    (h1 : pg_isX7 Λ)
    (b0 : vp_in v2 6)
    (e0 : pg_Ev S Λ YX7_next d [.ref 1] (pg_sj M (v1 + 1) v2.toNatClampNeg (M.2.1 1 6)) (fun r M' => r = none ∧ Q0 M'))
    (e1 : ∀ M1, Q0 M1 → (¬ (M1.1 1 4) = 2) → pg_Ev S Λ YX7_fail d [.ref 1, .int 1] M1 (fun r M' => r = none ∧ Q1 M'))
    (e2 : ∀ M1, Q0 M1 → (¬ (M1.1 1 4) = 2) → ∀ M2, Q1 M2 → pg_Ev S Λ YX7_next d [.ref 1] (pg_si M2 (v1 + 2) v2.toNatClampNeg ((M2.1 1 7) - 16)) (fun r M' => r = none ∧ Q2 M'))
    (e3 : ∀ M1, Q0 M1 → (¬ (M1.1 1 4) = 2) → ∀ M2, Q1 M2 → ∀ M3, Q2 M3 → pg_Ev S Λ YX7_readMeasure d [.ref 1, .int 1, .int 1, .int 20] M3 (fun r M' => ∃ x, r = some (.int x) ∧ Q3 x M'))
    (e4 : ∀ M1, Q0 M1 → (¬ (M1.1 1 4) = 2) → ∀ M2, Q1 M2 → ∀ M3, Q2 M3 → ∀ x4 M4, Q3 x4 M4 → pg_Ev S Λ YX7_readMeasure d [.ref 1, .int 2, .int 0, .int 20] (pg_si M4 (v1 + 3) v2.toNatClampNeg x4) (fun r M' => ∃ x, r = some (.int x) ∧ Q4 x M'))
    (e5 : ∀ M1, Q0 M1 → (¬ (M1.1 1 4) = 2) → ∀ M2, Q1 M2 → ∀ M3, Q2 M3 → ∀ x4 M4, Q3 x4 M4 → ∀ x5 M5, Q4 x5 M5 → pg_Ev S Λ YX7_readMeasure d [.ref 1, .int 3, .int 0, .int 99] (pg_si M5 (v1 + 4) v2.toNatClampNeg x5) (fun r M' => ∃ x, r = some (.int x) ∧ Q5 x M'))
    (k0 : ∀ M1, Q0 M1 → (¬ (M1.1 1 4) = 2) → ∀ M2, Q1 M2 → ∀ M3, Q2 M3 → ∀ x4 M4, Q3 x4 M4 → ∀ x5 M5, Q4 x5 M5 → ∀ x6 M6, Q5 x6 M6 → P none (pg_si (pg_si M6 (v1 + 5) v2.toNatClampNeg x6) v1 10 (((pg_si M6 (v1 + 5) v2.toNatClampNeg x6).1 v1 10) + 1)))
    (e6 : ∀ M1, Q0 M1 → ((M1.1 1 4) = 2) → ((M1.1 1 7) < 16) → pg_Ev S Λ YX7_fail d [.ref 1, .int 1] M1 (fun r M' => r = none ∧ Q6 M'))
    (e7 : ∀ M1, Q0 M1 → ((M1.1 1 4) = 2) → ((M1.1 1 7) < 16) → ∀ M7, Q6 M7 → pg_Ev S Λ YX7_next d [.ref 1] (pg_si M7 (v1 + 2) v2.toNatClampNeg ((M7.1 1 7) - 16)) (fun r M' => r = none ∧ Q7 M'))
    (e8 : ∀ M1, Q0 M1 → ((M1.1 1 4) = 2) → ((M1.1 1 7) < 16) → ∀ M7, Q6 M7 → ∀ M8, Q7 M8 → pg_Ev S Λ YX7_readMeasure d [.ref 1, .int 1, .int 1, .int 20] M8 (fun r M' => ∃ x, r = some (.int x) ∧ Q8 x M'))
    (e9 : ∀ M1, Q0 M1 → ((M1.1 1 4) = 2) → ((M1.1 1 7) < 16) → ∀ M7, Q6 M7 → ∀ M8, Q7 M8 → ∀ x9 M9, Q8 x9 M9 → pg_Ev S Λ YX7_readMeasure d [.ref 1, .int 2, .int 0, .int 20] (pg_si M9 (v1 + 3) v2.toNatClampNeg x9) (fun r M' => ∃ x, r = some (.int x) ∧ Q9 x M'))
    (e10 : ∀ M1, Q0 M1 → ((M1.1 1 4) = 2) → ((M1.1 1 7) < 16) → ∀ M7, Q6 M7 → ∀ M8, Q7 M8 → ∀ x9 M9, Q8 x9 M9 → ∀ x10 M10, Q9 x10 M10 → pg_Ev S Λ YX7_readMeasure d [.ref 1, .int 3, .int 0, .int 99] (pg_si M10 (v1 + 4) v2.toNatClampNeg x10) (fun r M' => ∃ x, r = some (.int x) ∧ Q10 x M'))
    (k1 : ∀ M1, Q0 M1 → ((M1.1 1 4) = 2) → ((M1.1 1 7) < 16) → ∀ M7, Q6 M7 → ∀ M8, Q7 M8 → ∀ x9 M9, Q8 x9 M9 → ∀ x10 M10, Q9 x10 M10 → ∀ x11 M11, Q10 x11 M11 → ∀ N1, N1 = pg_si (pg_si M11 (v1 + 5) v2.toNatClampNeg x11) v1 10 (((pg_si M11 (v1 + 5) v2.toNatClampNeg x11).1 v1 10) + 1) → P none N1)
    (e11 : ∀ M1, Q0 M1 → ((M1.1 1 4) = 2) → (¬ (M1.1 1 7) < 16) → ((M1.1 1 7) ≤ 19) → pg_Ev S Λ YX7_next d [.ref 1] (pg_si M1 (v1 + 2) v2.toNatClampNeg ((M1.1 1 7) - 16)) (fun r M' => r = none ∧ Q11 M'))
    (e12 : ∀ M1, Q0 M1 → ((M1.1 1 4) = 2) → (¬ (M1.1 1 7) < 16) → ((M1.1 1 7) ≤ 19) → ∀ M12, Q11 M12 → pg_Ev S Λ YX7_readMeasure d [.ref 1, .int 1, .int 1, .int 20] M12 (fun r M' => ∃ x, r = some (.int x) ∧ Q12 x M'))
    (e13 : ∀ M1, Q0 M1 → ((M1.1 1 4) = 2) → (¬ (M1.1 1 7) < 16) → ((M1.1 1 7) ≤ 19) → ∀ M12, Q11 M12 → ∀ x13 M13, Q12 x13 M13 → pg_Ev S Λ YX7_readMeasure d [.ref 1, .int 2, .int 0, .int 20] (pg_si M13 (v1 + 3) v2.toNatClampNeg x13) (fun r M' => ∃ x, r = some (.int x) ∧ Q13 x M'))
    (e14 : ∀ M1, Q0 M1 → ((M1.1 1 4) = 2) → (¬ (M1.1 1 7) < 16) → ((M1.1 1 7) ≤ 19) → ∀ M12, Q11 M12 → ∀ x13 M13, Q12 x13 M13 → ∀ x14 M14, Q13 x14 M14 → pg_Ev S Λ YX7_readMeasure d [.ref 1, .int 3, .int 0, .int 99] (pg_si M14 (v1 + 4) v2.toNatClampNeg x14) (fun r M' => ∃ x, r = some (.int x) ∧ Q14 x M'))
    (k2 : ∀ M1, Q0 M1 → ((M1.1 1 4) = 2) → (¬ (M1.1 1 7) < 16) → ((M1.1 1 7) ≤ 19) → ∀ M12, Q11 M12 → ∀ x13 M13, Q12 x13 M13 → ∀ x14 M14, Q13 x14 M14 → ∀ x15 M15, Q14 x15 M15 → ∀ N2, N2 = pg_si (pg_si M15 (v1 + 5) v2.toNatClampNeg x15) v1 10 (((pg_si M15 (v1 + 5) v2.toNatClampNeg x15).1 v1 10) + 1) → P none N2)
    (e15 : ∀ M1, Q0 M1 → ((M1.1 1 4) = 2) → (¬ (M1.1 1 7) < 16) → (¬ (M1.1 1 7) ≤ 19) → pg_Ev S Λ YX7_fail d [.ref 1, .int 1] M1 (fun r M' => r = none ∧ Q15 M'))
    (e16 : ∀ M1, Q0 M1 → ((M1.1 1 4) = 2) → (¬ (M1.1 1 7) < 16) → (¬ (M1.1 1 7) ≤ 19) → ∀ M16, Q15 M16 → pg_Ev S Λ YX7_next d [.ref 1] (pg_si M16 (v1 + 2) v2.toNatClampNeg ((M16.1 1 7) - 16)) (fun r M' => r = none ∧ Q16 M'))
    (e17 : ∀ M1, Q0 M1 → ((M1.1 1 4) = 2) → (¬ (M1.1 1 7) < 16) → (¬ (M1.1 1 7) ≤ 19) → ∀ M16, Q15 M16 → ∀ M17, Q16 M17 → pg_Ev S Λ YX7_readMeasure d [.ref 1, .int 1, .int 1, .int 20] M17 (fun r M' => ∃ x, r = some (.int x) ∧ Q17 x M'))
    (e18 : ∀ M1, Q0 M1 → ((M1.1 1 4) = 2) → (¬ (M1.1 1 7) < 16) → (¬ (M1.1 1 7) ≤ 19) → ∀ M16, Q15 M16 → ∀ M17, Q16 M17 → ∀ x18 M18, Q17 x18 M18 → pg_Ev S Λ YX7_readMeasure d [.ref 1, .int 2, .int 0, .int 20] (pg_si M18 (v1 + 3) v2.toNatClampNeg x18) (fun r M' => ∃ x, r = some (.int x) ∧ Q18 x M'))
    (e19 : ∀ M1, Q0 M1 → ((M1.1 1 4) = 2) → (¬ (M1.1 1 7) < 16) → (¬ (M1.1 1 7) ≤ 19) → ∀ M16, Q15 M16 → ∀ M17, Q16 M17 → ∀ x18 M18, Q17 x18 M18 → ∀ x19 M19, Q18 x19 M19 → pg_Ev S Λ YX7_readMeasure d [.ref 1, .int 3, .int 0, .int 99] (pg_si M19 (v1 + 4) v2.toNatClampNeg x19) (fun r M' => ∃ x, r = some (.int x) ∧ Q19 x M'))
    (k3 : ∀ M1, Q0 M1 → ((M1.1 1 4) = 2) → (¬ (M1.1 1 7) < 16) → (¬ (M1.1 1 7) ≤ 19) → ∀ M16, Q15 M16 → ∀ M17, Q16 M17 → ∀ x18 M18, Q17 x18 M18 → ∀ x19 M19, Q18 x19 M19 → ∀ x20 M20, Q19 x20 M20 → ∀ N3, N3 = pg_si (pg_si M20 (v1 + 5) v2.toNatClampNeg x20) v1 10 (((pg_si M20 (v1 + 5) v2.toNatClampNeg x20).1 v1 10) + 1) → P none N3) :
    pg_At S Λ YX7_readCloth (d + 1) 53 [(0, .ref 1), (1, .ref v1), (2, .int v2)] [] M P := by
  refine pg_aload_n (pc := 53) (i := 1) (j := 1) (x := v1) dX7_readCloth_53 rfl rfl ?_
  refine gfX7_90 (pc := 54) rfl h0 dX7_readCloth_54 ?_
  refine pg_iload_n (pc := 57) (i := 2) (j := 2) (x := v2) dX7_readCloth_57 rfl rfl ?_
  refine pg_aload_n (pc := 58) (i := 0) (j := 0) (x := 1) dX7_readCloth_58 rfl rfl ?_
  refine gfX7_82 (pc := 59) rfl h1 dX7_readCloth_59 ?_
  refine pg_last (pc := 62) h0.2.1 b0 dX7_readCloth_62 ?_
  refine pg_aload_n (pc := 63) (i := 0) (j := 0) (x := 1) dX7_readCloth_63 rfl rfl ?_
  refine pg_callV (pc := 64) (As := []) (st := []) okX7_next lkX7_52 rfl h1.1 rfl (Nat.le_refl _) (Nat.le_of_ble_eq_true rfl) e0 dX7_readCloth_64 (fun r1 M1 w1 => ?_)
  obtain ⟨rfl, w1⟩ := w1
  refine pg_aload_n (pc := 67) (i := 0) (j := 0) (x := 1) dX7_readCloth_67 rfl rfl ?_
  refine gfX7_35 (pc := 68) rfl h1 dX7_readCloth_68 ?_
  refine pg_iconst (pc := 71) (v := 2) dX7_readCloth_71 (by decide) ?_
  refine pg_icmp_ne (pc := 72) (tgt := 93) dX7_readCloth_72 (by decide) (fun c0 => ?_) (fun c0 => ?_)
  · skip
    refine pg_aload_n (pc := 93) (i := 0) (j := 0) (x := 1) dX7_readCloth_93 rfl rfl ?_
    refine pg_iconst (pc := 94) (v := 1) dX7_readCloth_94 (by decide) ?_
    refine pg_callV (pc := 95) (As := [.int 1]) (st := []) okX7_fail lkX7_68 rfl h1.1 rfl (Nat.le_refl _) (Nat.le_of_ble_eq_true rfl) (e1 M1 w1 c0) dX7_readCloth_95 (fun r2 M2 w2 => ?_)
    obtain ⟨rfl, w2⟩ := w2
    refine pg_aload_n (pc := 98) (i := 1) (j := 1) (x := v1) dX7_readCloth_98 rfl rfl ?_
    refine gfX7_94 (pc := 99) rfl h0 dX7_readCloth_99 ?_
    refine pg_iload_n (pc := 102) (i := 2) (j := 2) (x := v2) dX7_readCloth_102 rfl rfl ?_
    refine pg_aload_n (pc := 103) (i := 0) (j := 0) (x := 1) dX7_readCloth_103 rfl rfl ?_
    refine gfX7_55 (pc := 104) rfl h1 dX7_readCloth_104 ?_
    refine pg_bipush (pc := 107) (v := 16) dX7_readCloth_107 (by decide) ?_
    refine pg_isub (pc := 109) dX7_readCloth_109 ?_
    refine pg_iast (pc := 110) h0.2.2.1 b0 dX7_readCloth_110 ?_
    refine pg_aload_n (pc := 111) (i := 0) (j := 0) (x := 1) dX7_readCloth_111 rfl rfl ?_
    refine pg_callV (pc := 112) (As := []) (st := []) okX7_next lkX7_52 rfl h1.1 rfl (Nat.le_refl _) (Nat.le_of_ble_eq_true rfl) (e2 M1 w1 c0 M2 w2) dX7_readCloth_112 (fun r3 M3 w3 => ?_)
    obtain ⟨rfl, w3⟩ := w3
    refine pg_aload_n (pc := 115) (i := 1) (j := 1) (x := v1) dX7_readCloth_115 rfl rfl ?_
    refine gfX7_98 (pc := 116) rfl h0 dX7_readCloth_116 ?_
    refine pg_iload_n (pc := 119) (i := 2) (j := 2) (x := v2) dX7_readCloth_119 rfl rfl ?_
    refine pg_aload_n (pc := 120) (i := 0) (j := 0) (x := 1) dX7_readCloth_120 rfl rfl ?_
    refine pg_iconst (pc := 121) (v := 1) dX7_readCloth_121 (by decide) ?_
    refine pg_iconst (pc := 122) (v := 1) dX7_readCloth_122 (by decide) ?_
    refine pg_bipush (pc := 123) (v := 20) dX7_readCloth_123 (by decide) ?_
    refine pg_callV (pc := 125) (As := [.int 1, .int 1, .int 20]) (st := [.int v2, .ref (v1 + 3)]) okX7_readMeasure lkX7_101 rfl h1.1 rfl (Nat.le_refl _) (Nat.le_of_ble_eq_true rfl) (e3 M1 w1 c0 M2 w2 M3 w3) dX7_readCloth_125 (fun r4 M4 w4 => ?_)
    obtain ⟨x4, rfl, w4⟩ := w4
    refine pg_iast (pc := 128) h0.2.2.2.1 b0 dX7_readCloth_128 ?_
    refine pg_aload_n (pc := 129) (i := 1) (j := 1) (x := v1) dX7_readCloth_129 rfl rfl ?_
    refine gfX7_105 (pc := 130) rfl h0 dX7_readCloth_130 ?_
    refine pg_iload_n (pc := 133) (i := 2) (j := 2) (x := v2) dX7_readCloth_133 rfl rfl ?_
    refine pg_aload_n (pc := 134) (i := 0) (j := 0) (x := 1) dX7_readCloth_134 rfl rfl ?_
    refine pg_iconst (pc := 135) (v := 2) dX7_readCloth_135 (by decide) ?_
    refine pg_iconst (pc := 136) (v := 0) dX7_readCloth_136 (by decide) ?_
    refine pg_bipush (pc := 137) (v := 20) dX7_readCloth_137 (by decide) ?_
    refine pg_callV (pc := 139) (As := [.int 2, .int 0, .int 20]) (st := [.int v2, .ref (v1 + 4)]) okX7_readMeasure lkX7_101 rfl h1.1 rfl (Nat.le_refl _) (Nat.le_of_ble_eq_true rfl) (e4 M1 w1 c0 M2 w2 M3 w3 x4 M4 w4) dX7_readCloth_139 (fun r5 M5 w5 => ?_)
    obtain ⟨x5, rfl, w5⟩ := w5
    refine pg_iast (pc := 142) h0.2.2.2.2.1 b0 dX7_readCloth_142 ?_
    refine pg_aload_n (pc := 143) (i := 1) (j := 1) (x := v1) dX7_readCloth_143 rfl rfl ?_
    refine gfX7_108 (pc := 144) rfl h0 dX7_readCloth_144 ?_
    refine pg_iload_n (pc := 147) (i := 2) (j := 2) (x := v2) dX7_readCloth_147 rfl rfl ?_
    refine pg_aload_n (pc := 148) (i := 0) (j := 0) (x := 1) dX7_readCloth_148 rfl rfl ?_
    refine pg_iconst (pc := 149) (v := 3) dX7_readCloth_149 (by decide) ?_
    refine pg_iconst (pc := 150) (v := 0) dX7_readCloth_150 (by decide) ?_
    refine pg_bipush (pc := 151) (v := 99) dX7_readCloth_151 (by decide) ?_
    refine pg_callV (pc := 153) (As := [.int 3, .int 0, .int 99]) (st := [.int v2, .ref (v1 + 5)]) okX7_readMeasure lkX7_101 rfl h1.1 rfl (Nat.le_refl _) (Nat.le_of_ble_eq_true rfl) (e5 M1 w1 c0 M2 w2 M3 w3 x4 M4 w4 x5 M5 w5) dX7_readCloth_153 (fun r6 M6 w6 => ?_)
    obtain ⟨x6, rfl, w6⟩ := w6
    refine pg_iast (pc := 156) h0.2.2.2.2.2.1 b0 dX7_readCloth_156 ?_
    refine pg_aload_n (pc := 157) (i := 1) (j := 1) (x := v1) dX7_readCloth_157 rfl rfl ?_
    refine pg_dup (pc := 158) dX7_readCloth_158 rfl ?_
    refine gfX7_75 (pc := 159) rfl h0 dX7_readCloth_159 ?_
    refine pg_iconst (pc := 162) (v := 1) dX7_readCloth_162 (by decide) ?_
    refine pg_iadd (pc := 163) dX7_readCloth_163 ?_
    refine pfX7_75 (pc := 164) rfl h0 dX7_readCloth_164 ?_
    exact pg_vret (pc := 167) rfl dX7_readCloth_167 (k0 M1 w1 c0 M2 w2 M3 w3 x4 M4 w4 x5 M5 w5 x6 M6 w6)
  · skip
    refine pg_aload_n (pc := 75) (i := 0) (j := 0) (x := 1) dX7_readCloth_75 rfl rfl ?_
    refine gfX7_55 (pc := 76) rfl h1 dX7_readCloth_76 ?_
    refine pg_bipush (pc := 79) (v := 16) dX7_readCloth_79 (by decide) ?_
    refine pg_icmp_lt (pc := 81) (tgt := 93) dX7_readCloth_81 (by decide) (fun c1 => ?_) (fun c1 => ?_)
    · skip
      refine pg_aload_n (pc := 93) (i := 0) (j := 0) (x := 1) dX7_readCloth_93 rfl rfl ?_
      refine pg_iconst (pc := 94) (v := 1) dX7_readCloth_94 (by decide) ?_
      refine pg_callV (pc := 95) (As := [.int 1]) (st := []) okX7_fail lkX7_68 rfl h1.1 rfl (Nat.le_refl _) (Nat.le_of_ble_eq_true rfl) (e6 M1 w1 c0 c1) dX7_readCloth_95 (fun r7 M7 w7 => ?_)
      obtain ⟨rfl, w7⟩ := w7
      refine pg_aload_n (pc := 98) (i := 1) (j := 1) (x := v1) dX7_readCloth_98 rfl rfl ?_
      refine gfX7_94 (pc := 99) rfl h0 dX7_readCloth_99 ?_
      refine pg_iload_n (pc := 102) (i := 2) (j := 2) (x := v2) dX7_readCloth_102 rfl rfl ?_
      refine pg_aload_n (pc := 103) (i := 0) (j := 0) (x := 1) dX7_readCloth_103 rfl rfl ?_
      refine gfX7_55 (pc := 104) rfl h1 dX7_readCloth_104 ?_
      refine pg_bipush (pc := 107) (v := 16) dX7_readCloth_107 (by decide) ?_
      refine pg_isub (pc := 109) dX7_readCloth_109 ?_
      refine pg_iast (pc := 110) h0.2.2.1 b0 dX7_readCloth_110 ?_
      refine pg_aload_n (pc := 111) (i := 0) (j := 0) (x := 1) dX7_readCloth_111 rfl rfl ?_
      refine pg_callV (pc := 112) (As := []) (st := []) okX7_next lkX7_52 rfl h1.1 rfl (Nat.le_refl _) (Nat.le_of_ble_eq_true rfl) (e7 M1 w1 c0 c1 M7 w7) dX7_readCloth_112 (fun r8 M8 w8 => ?_)
      obtain ⟨rfl, w8⟩ := w8
      refine pg_aload_n (pc := 115) (i := 1) (j := 1) (x := v1) dX7_readCloth_115 rfl rfl ?_
      refine gfX7_98 (pc := 116) rfl h0 dX7_readCloth_116 ?_
      refine pg_iload_n (pc := 119) (i := 2) (j := 2) (x := v2) dX7_readCloth_119 rfl rfl ?_
      refine pg_aload_n (pc := 120) (i := 0) (j := 0) (x := 1) dX7_readCloth_120 rfl rfl ?_
      refine pg_iconst (pc := 121) (v := 1) dX7_readCloth_121 (by decide) ?_
      refine pg_iconst (pc := 122) (v := 1) dX7_readCloth_122 (by decide) ?_
      refine pg_bipush (pc := 123) (v := 20) dX7_readCloth_123 (by decide) ?_
      refine pg_callV (pc := 125) (As := [.int 1, .int 1, .int 20]) (st := [.int v2, .ref (v1 + 3)]) okX7_readMeasure lkX7_101 rfl h1.1 rfl (Nat.le_refl _) (Nat.le_of_ble_eq_true rfl) (e8 M1 w1 c0 c1 M7 w7 M8 w8) dX7_readCloth_125 (fun r9 M9 w9 => ?_)
      obtain ⟨x9, rfl, w9⟩ := w9
      refine pg_iast (pc := 128) h0.2.2.2.1 b0 dX7_readCloth_128 ?_
      refine pg_aload_n (pc := 129) (i := 1) (j := 1) (x := v1) dX7_readCloth_129 rfl rfl ?_
      refine gfX7_105 (pc := 130) rfl h0 dX7_readCloth_130 ?_
      refine pg_iload_n (pc := 133) (i := 2) (j := 2) (x := v2) dX7_readCloth_133 rfl rfl ?_
      refine pg_aload_n (pc := 134) (i := 0) (j := 0) (x := 1) dX7_readCloth_134 rfl rfl ?_
      refine pg_iconst (pc := 135) (v := 2) dX7_readCloth_135 (by decide) ?_
      refine pg_iconst (pc := 136) (v := 0) dX7_readCloth_136 (by decide) ?_
      refine pg_bipush (pc := 137) (v := 20) dX7_readCloth_137 (by decide) ?_
      refine pg_callV (pc := 139) (As := [.int 2, .int 0, .int 20]) (st := [.int v2, .ref (v1 + 4)]) okX7_readMeasure lkX7_101 rfl h1.1 rfl (Nat.le_refl _) (Nat.le_of_ble_eq_true rfl) (e9 M1 w1 c0 c1 M7 w7 M8 w8 x9 M9 w9) dX7_readCloth_139 (fun r10 M10 w10 => ?_)
      obtain ⟨x10, rfl, w10⟩ := w10
      refine pg_iast (pc := 142) h0.2.2.2.2.1 b0 dX7_readCloth_142 ?_
      refine pg_aload_n (pc := 143) (i := 1) (j := 1) (x := v1) dX7_readCloth_143 rfl rfl ?_
      refine gfX7_108 (pc := 144) rfl h0 dX7_readCloth_144 ?_
      refine pg_iload_n (pc := 147) (i := 2) (j := 2) (x := v2) dX7_readCloth_147 rfl rfl ?_
      refine pg_aload_n (pc := 148) (i := 0) (j := 0) (x := 1) dX7_readCloth_148 rfl rfl ?_
      refine pg_iconst (pc := 149) (v := 3) dX7_readCloth_149 (by decide) ?_
      refine pg_iconst (pc := 150) (v := 0) dX7_readCloth_150 (by decide) ?_
      refine pg_bipush (pc := 151) (v := 99) dX7_readCloth_151 (by decide) ?_
      refine pg_callV (pc := 153) (As := [.int 3, .int 0, .int 99]) (st := [.int v2, .ref (v1 + 5)]) okX7_readMeasure lkX7_101 rfl h1.1 rfl (Nat.le_refl _) (Nat.le_of_ble_eq_true rfl) (e10 M1 w1 c0 c1 M7 w7 M8 w8 x9 M9 w9 x10 M10 w10) dX7_readCloth_153 (fun r11 M11 w11 => ?_)
      obtain ⟨x11, rfl, w11⟩ := w11
      refine pg_iast (pc := 156) h0.2.2.2.2.2.1 b0 dX7_readCloth_156 ?_
      refine pg_aload_n (pc := 157) (i := 1) (j := 1) (x := v1) dX7_readCloth_157 rfl rfl ?_
      refine pg_dup (pc := 158) dX7_readCloth_158 rfl ?_
      refine gfX7_75 (pc := 159) rfl h0 dX7_readCloth_159 ?_
      refine pg_iconst (pc := 162) (v := 1) dX7_readCloth_162 (by decide) ?_
      refine pg_iadd (pc := 163) dX7_readCloth_163 ?_
      refine pfX7_75 (pc := 164) rfl h0 dX7_readCloth_164 ?_
      refine pg_named (fun N1 u1 => ?_)
      exact pg_vret (pc := 167) rfl dX7_readCloth_167 (k1 M1 w1 c0 c1 M7 w7 M8 w8 x9 M9 w9 x10 M10 w10 x11 M11 w11 N1 u1)
    · skip
      refine pg_aload_n (pc := 84) (i := 0) (j := 0) (x := 1) dX7_readCloth_84 rfl rfl ?_
      refine gfX7_55 (pc := 85) rfl h1 dX7_readCloth_85 ?_
      refine pg_bipush (pc := 88) (v := 19) dX7_readCloth_88 (by decide) ?_
      refine pg_icmp_le (pc := 90) (tgt := 98) dX7_readCloth_90 (by decide) (fun c2 => ?_) (fun c2 => ?_)
      · skip
        refine pg_aload_n (pc := 98) (i := 1) (j := 1) (x := v1) dX7_readCloth_98 rfl rfl ?_
        refine gfX7_94 (pc := 99) rfl h0 dX7_readCloth_99 ?_
        refine pg_iload_n (pc := 102) (i := 2) (j := 2) (x := v2) dX7_readCloth_102 rfl rfl ?_
        refine pg_aload_n (pc := 103) (i := 0) (j := 0) (x := 1) dX7_readCloth_103 rfl rfl ?_
        refine gfX7_55 (pc := 104) rfl h1 dX7_readCloth_104 ?_
        refine pg_bipush (pc := 107) (v := 16) dX7_readCloth_107 (by decide) ?_
        refine pg_isub (pc := 109) dX7_readCloth_109 ?_
        refine pg_iast (pc := 110) h0.2.2.1 b0 dX7_readCloth_110 ?_
        refine pg_aload_n (pc := 111) (i := 0) (j := 0) (x := 1) dX7_readCloth_111 rfl rfl ?_
        refine pg_callV (pc := 112) (As := []) (st := []) okX7_next lkX7_52 rfl h1.1 rfl (Nat.le_refl _) (Nat.le_of_ble_eq_true rfl) (e11 M1 w1 c0 c1 c2) dX7_readCloth_112 (fun r12 M12 w12 => ?_)
        obtain ⟨rfl, w12⟩ := w12
        refine pg_aload_n (pc := 115) (i := 1) (j := 1) (x := v1) dX7_readCloth_115 rfl rfl ?_
        refine gfX7_98 (pc := 116) rfl h0 dX7_readCloth_116 ?_
        refine pg_iload_n (pc := 119) (i := 2) (j := 2) (x := v2) dX7_readCloth_119 rfl rfl ?_
        refine pg_aload_n (pc := 120) (i := 0) (j := 0) (x := 1) dX7_readCloth_120 rfl rfl ?_
        refine pg_iconst (pc := 121) (v := 1) dX7_readCloth_121 (by decide) ?_
        refine pg_iconst (pc := 122) (v := 1) dX7_readCloth_122 (by decide) ?_
        refine pg_bipush (pc := 123) (v := 20) dX7_readCloth_123 (by decide) ?_
        refine pg_callV (pc := 125) (As := [.int 1, .int 1, .int 20]) (st := [.int v2, .ref (v1 + 3)]) okX7_readMeasure lkX7_101 rfl h1.1 rfl (Nat.le_refl _) (Nat.le_of_ble_eq_true rfl) (e12 M1 w1 c0 c1 c2 M12 w12) dX7_readCloth_125 (fun r13 M13 w13 => ?_)
        obtain ⟨x13, rfl, w13⟩ := w13
        refine pg_iast (pc := 128) h0.2.2.2.1 b0 dX7_readCloth_128 ?_
        refine pg_aload_n (pc := 129) (i := 1) (j := 1) (x := v1) dX7_readCloth_129 rfl rfl ?_
        refine gfX7_105 (pc := 130) rfl h0 dX7_readCloth_130 ?_
        refine pg_iload_n (pc := 133) (i := 2) (j := 2) (x := v2) dX7_readCloth_133 rfl rfl ?_
        refine pg_aload_n (pc := 134) (i := 0) (j := 0) (x := 1) dX7_readCloth_134 rfl rfl ?_
        refine pg_iconst (pc := 135) (v := 2) dX7_readCloth_135 (by decide) ?_
        refine pg_iconst (pc := 136) (v := 0) dX7_readCloth_136 (by decide) ?_
        refine pg_bipush (pc := 137) (v := 20) dX7_readCloth_137 (by decide) ?_
        refine pg_callV (pc := 139) (As := [.int 2, .int 0, .int 20]) (st := [.int v2, .ref (v1 + 4)]) okX7_readMeasure lkX7_101 rfl h1.1 rfl (Nat.le_refl _) (Nat.le_of_ble_eq_true rfl) (e13 M1 w1 c0 c1 c2 M12 w12 x13 M13 w13) dX7_readCloth_139 (fun r14 M14 w14 => ?_)
        obtain ⟨x14, rfl, w14⟩ := w14
        refine pg_iast (pc := 142) h0.2.2.2.2.1 b0 dX7_readCloth_142 ?_
        refine pg_aload_n (pc := 143) (i := 1) (j := 1) (x := v1) dX7_readCloth_143 rfl rfl ?_
        refine gfX7_108 (pc := 144) rfl h0 dX7_readCloth_144 ?_
        refine pg_iload_n (pc := 147) (i := 2) (j := 2) (x := v2) dX7_readCloth_147 rfl rfl ?_
        refine pg_aload_n (pc := 148) (i := 0) (j := 0) (x := 1) dX7_readCloth_148 rfl rfl ?_
        refine pg_iconst (pc := 149) (v := 3) dX7_readCloth_149 (by decide) ?_
        refine pg_iconst (pc := 150) (v := 0) dX7_readCloth_150 (by decide) ?_
        refine pg_bipush (pc := 151) (v := 99) dX7_readCloth_151 (by decide) ?_
        refine pg_callV (pc := 153) (As := [.int 3, .int 0, .int 99]) (st := [.int v2, .ref (v1 + 5)]) okX7_readMeasure lkX7_101 rfl h1.1 rfl (Nat.le_refl _) (Nat.le_of_ble_eq_true rfl) (e14 M1 w1 c0 c1 c2 M12 w12 x13 M13 w13 x14 M14 w14) dX7_readCloth_153 (fun r15 M15 w15 => ?_)
        obtain ⟨x15, rfl, w15⟩ := w15
        refine pg_iast (pc := 156) h0.2.2.2.2.2.1 b0 dX7_readCloth_156 ?_
        refine pg_aload_n (pc := 157) (i := 1) (j := 1) (x := v1) dX7_readCloth_157 rfl rfl ?_
        refine pg_dup (pc := 158) dX7_readCloth_158 rfl ?_
        refine gfX7_75 (pc := 159) rfl h0 dX7_readCloth_159 ?_
        refine pg_iconst (pc := 162) (v := 1) dX7_readCloth_162 (by decide) ?_
        refine pg_iadd (pc := 163) dX7_readCloth_163 ?_
        refine pfX7_75 (pc := 164) rfl h0 dX7_readCloth_164 ?_
        refine pg_named (fun N2 u2 => ?_)
        exact pg_vret (pc := 167) rfl dX7_readCloth_167 (k2 M1 w1 c0 c1 c2 M12 w12 x13 M13 w13 x14 M14 w14 x15 M15 w15 N2 u2)
      · skip
        refine pg_aload_n (pc := 93) (i := 0) (j := 0) (x := 1) dX7_readCloth_93 rfl rfl ?_
        refine pg_iconst (pc := 94) (v := 1) dX7_readCloth_94 (by decide) ?_
        refine pg_callV (pc := 95) (As := [.int 1]) (st := []) okX7_fail lkX7_68 rfl h1.1 rfl (Nat.le_refl _) (Nat.le_of_ble_eq_true rfl) (e15 M1 w1 c0 c1 c2) dX7_readCloth_95 (fun r16 M16 w16 => ?_)
        obtain ⟨rfl, w16⟩ := w16
        refine pg_aload_n (pc := 98) (i := 1) (j := 1) (x := v1) dX7_readCloth_98 rfl rfl ?_
        refine gfX7_94 (pc := 99) rfl h0 dX7_readCloth_99 ?_
        refine pg_iload_n (pc := 102) (i := 2) (j := 2) (x := v2) dX7_readCloth_102 rfl rfl ?_
        refine pg_aload_n (pc := 103) (i := 0) (j := 0) (x := 1) dX7_readCloth_103 rfl rfl ?_
        refine gfX7_55 (pc := 104) rfl h1 dX7_readCloth_104 ?_
        refine pg_bipush (pc := 107) (v := 16) dX7_readCloth_107 (by decide) ?_
        refine pg_isub (pc := 109) dX7_readCloth_109 ?_
        refine pg_iast (pc := 110) h0.2.2.1 b0 dX7_readCloth_110 ?_
        refine pg_aload_n (pc := 111) (i := 0) (j := 0) (x := 1) dX7_readCloth_111 rfl rfl ?_
        refine pg_callV (pc := 112) (As := []) (st := []) okX7_next lkX7_52 rfl h1.1 rfl (Nat.le_refl _) (Nat.le_of_ble_eq_true rfl) (e16 M1 w1 c0 c1 c2 M16 w16) dX7_readCloth_112 (fun r17 M17 w17 => ?_)
        obtain ⟨rfl, w17⟩ := w17
        refine pg_aload_n (pc := 115) (i := 1) (j := 1) (x := v1) dX7_readCloth_115 rfl rfl ?_
        refine gfX7_98 (pc := 116) rfl h0 dX7_readCloth_116 ?_
        refine pg_iload_n (pc := 119) (i := 2) (j := 2) (x := v2) dX7_readCloth_119 rfl rfl ?_
        refine pg_aload_n (pc := 120) (i := 0) (j := 0) (x := 1) dX7_readCloth_120 rfl rfl ?_
        refine pg_iconst (pc := 121) (v := 1) dX7_readCloth_121 (by decide) ?_
        refine pg_iconst (pc := 122) (v := 1) dX7_readCloth_122 (by decide) ?_
        refine pg_bipush (pc := 123) (v := 20) dX7_readCloth_123 (by decide) ?_
        refine pg_callV (pc := 125) (As := [.int 1, .int 1, .int 20]) (st := [.int v2, .ref (v1 + 3)]) okX7_readMeasure lkX7_101 rfl h1.1 rfl (Nat.le_refl _) (Nat.le_of_ble_eq_true rfl) (e17 M1 w1 c0 c1 c2 M16 w16 M17 w17) dX7_readCloth_125 (fun r18 M18 w18 => ?_)
        obtain ⟨x18, rfl, w18⟩ := w18
        refine pg_iast (pc := 128) h0.2.2.2.1 b0 dX7_readCloth_128 ?_
        refine pg_aload_n (pc := 129) (i := 1) (j := 1) (x := v1) dX7_readCloth_129 rfl rfl ?_
        refine gfX7_105 (pc := 130) rfl h0 dX7_readCloth_130 ?_
        refine pg_iload_n (pc := 133) (i := 2) (j := 2) (x := v2) dX7_readCloth_133 rfl rfl ?_
        refine pg_aload_n (pc := 134) (i := 0) (j := 0) (x := 1) dX7_readCloth_134 rfl rfl ?_
        refine pg_iconst (pc := 135) (v := 2) dX7_readCloth_135 (by decide) ?_
        refine pg_iconst (pc := 136) (v := 0) dX7_readCloth_136 (by decide) ?_
        refine pg_bipush (pc := 137) (v := 20) dX7_readCloth_137 (by decide) ?_
        refine pg_callV (pc := 139) (As := [.int 2, .int 0, .int 20]) (st := [.int v2, .ref (v1 + 4)]) okX7_readMeasure lkX7_101 rfl h1.1 rfl (Nat.le_refl _) (Nat.le_of_ble_eq_true rfl) (e18 M1 w1 c0 c1 c2 M16 w16 M17 w17 x18 M18 w18) dX7_readCloth_139 (fun r19 M19 w19 => ?_)
        obtain ⟨x19, rfl, w19⟩ := w19
        refine pg_iast (pc := 142) h0.2.2.2.2.1 b0 dX7_readCloth_142 ?_
        refine pg_aload_n (pc := 143) (i := 1) (j := 1) (x := v1) dX7_readCloth_143 rfl rfl ?_
        refine gfX7_108 (pc := 144) rfl h0 dX7_readCloth_144 ?_
        refine pg_iload_n (pc := 147) (i := 2) (j := 2) (x := v2) dX7_readCloth_147 rfl rfl ?_
        refine pg_aload_n (pc := 148) (i := 0) (j := 0) (x := 1) dX7_readCloth_148 rfl rfl ?_
        refine pg_iconst (pc := 149) (v := 3) dX7_readCloth_149 (by decide) ?_
        refine pg_iconst (pc := 150) (v := 0) dX7_readCloth_150 (by decide) ?_
        refine pg_bipush (pc := 151) (v := 99) dX7_readCloth_151 (by decide) ?_
        refine pg_callV (pc := 153) (As := [.int 3, .int 0, .int 99]) (st := [.int v2, .ref (v1 + 5)]) okX7_readMeasure lkX7_101 rfl h1.1 rfl (Nat.le_refl _) (Nat.le_of_ble_eq_true rfl) (e19 M1 w1 c0 c1 c2 M16 w16 M17 w17 x18 M18 w18 x19 M19 w19) dX7_readCloth_153 (fun r20 M20 w20 => ?_)
        obtain ⟨x20, rfl, w20⟩ := w20
        refine pg_iast (pc := 156) h0.2.2.2.2.2.1 b0 dX7_readCloth_156 ?_
        refine pg_aload_n (pc := 157) (i := 1) (j := 1) (x := v1) dX7_readCloth_157 rfl rfl ?_
        refine pg_dup (pc := 158) dX7_readCloth_158 rfl ?_
        refine gfX7_75 (pc := 159) rfl h0 dX7_readCloth_159 ?_
        refine pg_iconst (pc := 162) (v := 1) dX7_readCloth_162 (by decide) ?_
        refine pg_iadd (pc := 163) dX7_readCloth_163 ?_
        refine pfX7_75 (pc := 164) rfl h0 dX7_readCloth_164 ?_
        refine pg_named (fun N3 u3 => ?_)
        exact pg_vret (pc := 167) rfl dX7_readCloth_167 (k3 M1 w1 c0 c1 c2 M16 w16 M17 w17 x18 M18 w18 x19 M19 w19 x20 M20 w20 N3 u3)
theorem oX7_readCloth {d : Nat} {v1 : Nat} (h : pg_At S Λ YX7_readCloth d 0 [(0, .ref 1), (1, .ref v1)] [] M P) : pg_Ev S Λ YX7_readCloth d [.ref 1, .ref v1] M P := pg_Ev.of (by decide) (by first | decide | exact Nat.le_of_ble_eq_true rfl) h
theorem sX7_readMeasure_0 {v1 : Int32} {v2 : Int32} {v3 : Int32} {Q0 : pg_M → Prop} {Q1 : pg_M → Prop} {Q2 : Int32 → pg_M → Prop} {Q3 : pg_M → Prop} {Q4 : Int32 → pg_M → Prop} {Q5 : pg_M → Prop} {Q6 : pg_M → Prop} {Q7 : Int32 → pg_M → Prop}
    (h0 : pg_isX7 Λ)
    (e0 : (¬ (M.1 1 4) = 2) → pg_Ev S Λ YX7_fail d [.ref 1, .int 1] M (fun r M' => r = none ∧ Q0 M'))
    (e1 : (¬ (M.1 1 4) = 2) → ∀ M1, Q0 M1 → pg_Ev S Λ YX7_next d [.ref 1] M1 (fun r M' => r = none ∧ Q1 M'))
    (e2 : (¬ (M.1 1 4) = 2) → ∀ M1, Q0 M1 → ∀ M2, Q1 M2 → pg_Ev S Λ YX7_readNumber d [.ref 1, .int v2, .int v3] M2 (fun r M' => ∃ x, r = some (.int x) ∧ Q2 x M'))
    (k0 : (¬ (M.1 1 4) = 2) → ∀ M1, Q0 M1 → ∀ M2, Q1 M2 → ∀ x3 M3, Q2 x3 M3 → P (some (.int x3)) M3)
    (e3 : ((M.1 1 4) = 2) → ((M.1 1 7) = v1) → pg_Ev S Λ YX7_next d [.ref 1] M (fun r M' => r = none ∧ Q3 M'))
    (e4 : ((M.1 1 4) = 2) → ((M.1 1 7) = v1) → ∀ M4, Q3 M4 → pg_Ev S Λ YX7_readNumber d [.ref 1, .int v2, .int v3] M4 (fun r M' => ∃ x, r = some (.int x) ∧ Q4 x M'))
    (k1 : ((M.1 1 4) = 2) → ((M.1 1 7) = v1) → ∀ M4, Q3 M4 → ∀ x5 M5, Q4 x5 M5 → P (some (.int x5)) M5)
    (e5 : ((M.1 1 4) = 2) → (¬ (M.1 1 7) = v1) → pg_Ev S Λ YX7_fail d [.ref 1, .int 1] M (fun r M' => r = none ∧ Q5 M'))
    (e6 : ((M.1 1 4) = 2) → (¬ (M.1 1 7) = v1) → ∀ M6, Q5 M6 → pg_Ev S Λ YX7_next d [.ref 1] M6 (fun r M' => r = none ∧ Q6 M'))
    (e7 : ((M.1 1 4) = 2) → (¬ (M.1 1 7) = v1) → ∀ M6, Q5 M6 → ∀ M7, Q6 M7 → pg_Ev S Λ YX7_readNumber d [.ref 1, .int v2, .int v3] M7 (fun r M' => ∃ x, r = some (.int x) ∧ Q7 x M'))
    (k2 : ((M.1 1 4) = 2) → (¬ (M.1 1 7) = v1) → ∀ M6, Q5 M6 → ∀ M7, Q6 M7 → ∀ x8 M8, Q7 x8 M8 → P (some (.int x8)) M8) :
    pg_At S Λ YX7_readMeasure (d + 1) 0 [(0, .ref 1), (1, .int v1), (2, .int v2), (3, .int v3)] [] M P := by
  refine pg_aload_n (pc := 0) (i := 0) (j := 0) (x := 1) dX7_readMeasure_0 rfl rfl ?_
  refine gfX7_35 (pc := 1) rfl h0 dX7_readMeasure_1 ?_
  refine pg_iconst (pc := 4) (v := 2) dX7_readMeasure_4 (by decide) ?_
  refine pg_icmp_ne (pc := 5) (tgt := 16) dX7_readMeasure_5 (by decide) (fun c0 => ?_) (fun c0 => ?_)
  · skip
    refine pg_aload_n (pc := 16) (i := 0) (j := 0) (x := 1) dX7_readMeasure_16 rfl rfl ?_
    refine pg_iconst (pc := 17) (v := 1) dX7_readMeasure_17 (by decide) ?_
    refine pg_callV (pc := 18) (As := [.int 1]) (st := []) okX7_fail lkX7_68 rfl h0.1 rfl (Nat.le_refl _) (Nat.le_of_ble_eq_true rfl) (e0 c0) dX7_readMeasure_18 (fun r1 M1 w1 => ?_)
    obtain ⟨rfl, w1⟩ := w1
    refine pg_aload_n (pc := 21) (i := 0) (j := 0) (x := 1) dX7_readMeasure_21 rfl rfl ?_
    refine pg_callV (pc := 22) (As := []) (st := []) okX7_next lkX7_52 rfl h0.1 rfl (Nat.le_refl _) (Nat.le_of_ble_eq_true rfl) (e1 c0 M1 w1) dX7_readMeasure_22 (fun r2 M2 w2 => ?_)
    obtain ⟨rfl, w2⟩ := w2
    refine pg_aload_n (pc := 25) (i := 0) (j := 0) (x := 1) dX7_readMeasure_25 rfl rfl ?_
    refine pg_iload_n (pc := 26) (i := 2) (j := 2) (x := v2) dX7_readMeasure_26 rfl rfl ?_
    refine pg_iload_n (pc := 27) (i := 3) (j := 3) (x := v3) dX7_readMeasure_27 rfl rfl ?_
    refine pg_callV (pc := 28) (As := [.int v2, .int v3]) (st := []) okX7_readNumber lkX7_111 rfl h0.1 rfl (Nat.le_refl _) (Nat.le_of_ble_eq_true rfl) (e2 c0 M1 w1 M2 w2) dX7_readMeasure_28 (fun r3 M3 w3 => ?_)
    obtain ⟨x3, rfl, w3⟩ := w3
    exact pg_iret (pc := 31) rfl dX7_readMeasure_31 (k0 c0 M1 w1 M2 w2 x3 M3 w3)
  · skip
    refine pg_aload_n (pc := 8) (i := 0) (j := 0) (x := 1) dX7_readMeasure_8 rfl rfl ?_
    refine gfX7_55 (pc := 9) rfl h0 dX7_readMeasure_9 ?_
    refine pg_iload_n (pc := 12) (i := 1) (j := 1) (x := v1) dX7_readMeasure_12 rfl rfl ?_
    refine pg_icmp_eq (pc := 13) (tgt := 21) dX7_readMeasure_13 (by decide) (fun c1 => ?_) (fun c1 => ?_)
    · skip
      refine pg_aload_n (pc := 21) (i := 0) (j := 0) (x := 1) dX7_readMeasure_21 rfl rfl ?_
      refine pg_callV (pc := 22) (As := []) (st := []) okX7_next lkX7_52 rfl h0.1 rfl (Nat.le_refl _) (Nat.le_of_ble_eq_true rfl) (e3 c0 c1) dX7_readMeasure_22 (fun r4 M4 w4 => ?_)
      obtain ⟨rfl, w4⟩ := w4
      refine pg_aload_n (pc := 25) (i := 0) (j := 0) (x := 1) dX7_readMeasure_25 rfl rfl ?_
      refine pg_iload_n (pc := 26) (i := 2) (j := 2) (x := v2) dX7_readMeasure_26 rfl rfl ?_
      refine pg_iload_n (pc := 27) (i := 3) (j := 3) (x := v3) dX7_readMeasure_27 rfl rfl ?_
      refine pg_callV (pc := 28) (As := [.int v2, .int v3]) (st := []) okX7_readNumber lkX7_111 rfl h0.1 rfl (Nat.le_refl _) (Nat.le_of_ble_eq_true rfl) (e4 c0 c1 M4 w4) dX7_readMeasure_28 (fun r5 M5 w5 => ?_)
      obtain ⟨x5, rfl, w5⟩ := w5
      exact pg_iret (pc := 31) rfl dX7_readMeasure_31 (k1 c0 c1 M4 w4 x5 M5 w5)
    · skip
      refine pg_aload_n (pc := 16) (i := 0) (j := 0) (x := 1) dX7_readMeasure_16 rfl rfl ?_
      refine pg_iconst (pc := 17) (v := 1) dX7_readMeasure_17 (by decide) ?_
      refine pg_callV (pc := 18) (As := [.int 1]) (st := []) okX7_fail lkX7_68 rfl h0.1 rfl (Nat.le_refl _) (Nat.le_of_ble_eq_true rfl) (e5 c0 c1) dX7_readMeasure_18 (fun r6 M6 w6 => ?_)
      obtain ⟨rfl, w6⟩ := w6
      refine pg_aload_n (pc := 21) (i := 0) (j := 0) (x := 1) dX7_readMeasure_21 rfl rfl ?_
      refine pg_callV (pc := 22) (As := []) (st := []) okX7_next lkX7_52 rfl h0.1 rfl (Nat.le_refl _) (Nat.le_of_ble_eq_true rfl) (e6 c0 c1 M6 w6) dX7_readMeasure_22 (fun r7 M7 w7 => ?_)
      obtain ⟨rfl, w7⟩ := w7
      refine pg_aload_n (pc := 25) (i := 0) (j := 0) (x := 1) dX7_readMeasure_25 rfl rfl ?_
      refine pg_iload_n (pc := 26) (i := 2) (j := 2) (x := v2) dX7_readMeasure_26 rfl rfl ?_
      refine pg_iload_n (pc := 27) (i := 3) (j := 3) (x := v3) dX7_readMeasure_27 rfl rfl ?_
      refine pg_callV (pc := 28) (As := [.int v2, .int v3]) (st := []) okX7_readNumber lkX7_111 rfl h0.1 rfl (Nat.le_refl _) (Nat.le_of_ble_eq_true rfl) (e7 c0 c1 M6 w6 M7 w7) dX7_readMeasure_28 (fun r8 M8 w8 => ?_)
      obtain ⟨x8, rfl, w8⟩ := w8
      exact pg_iret (pc := 31) rfl dX7_readMeasure_31 (k2 c0 c1 M6 w6 M7 w7 x8 M8 w8)
theorem oX7_readMeasure {d : Nat} {v1 : Int32} {v2 : Int32} {v3 : Int32} (h : pg_At S Λ YX7_readMeasure d 0 [(0, .ref 1), (1, .int v1), (2, .int v2), (3, .int v3)] [] M P) : pg_Ev S Λ YX7_readMeasure d [.ref 1, .int v1, .int v2, .int v3] M P := pg_Ev.of (by decide) (by first | decide | exact Nat.le_of_ble_eq_true rfl) h
theorem sX7_readClash_0 {v1 : Nat} {Q0 : pg_M → Prop} {Q1 : Int32 → pg_M → Prop} {Q2 : Int32 → pg_M → Prop} {Q3 : pg_M → Prop} {Q4 : pg_M → Prop} {Q5 : pg_M → Prop} {Q6 : pg_M → Prop} {Q7 : pg_M → Prop} {Q8 : Int32 → pg_M → Prop} {Q9 : pg_M → Prop} {Q10 : pg_M → Prop} {Q11 : pg_M → Prop} {Q12 : pg_M → Prop} {Q13 : pg_M → Prop}
    (h0 : pg_isX7 Λ)
    (h1 : pg_isX5 Λ v1)
    (e0 : pg_Ev S Λ YX7_next d [.ref 1] M (fun r M' => r = none ∧ Q0 M'))
    (e1 : ∀ M1, Q0 M1 → pg_Ev S Λ YX7_readNamed d [.ref 1, .ref v1] M1 (fun r M' => ∃ x, r = some (.int x) ∧ Q1 x M'))
    (e2 : ∀ M1, Q0 M1 → ∀ x2 M2, Q1 x2 M2 → ((M2.1 1 9) = 0) → pg_Ev S Λ YX7_namedHere d [.ref 1, .ref v1] M2 (fun r M' => ∃ x, r = some (.int x) ∧ Q2 x M'))
    (e3 : ∀ M1, Q0 M1 → ∀ x2 M2, Q1 x2 M2 → ((M2.1 1 9) = 0) → ∀ x3 M3, Q2 x3 M3 → (¬ (M3.1 1 9) = 0) → pg_Ev S Λ YX7_next d [.ref 1] M3 (fun r M' => r = none ∧ Q3 M'))
    (k0 : ∀ M1, Q0 M1 → ∀ x2 M2, Q1 x2 M2 → ((M2.1 1 9) = 0) → ∀ x3 M3, Q2 x3 M3 → (¬ (M3.1 1 9) = 0) → ∀ M4, Q3 M4 → (¬ (M4.1 1 9) = 0) → P none M4)
    (e4 : ∀ M1, Q0 M1 → ∀ x2 M2, Q1 x2 M2 → ((M2.1 1 9) = 0) → ∀ x3 M3, Q2 x3 M3 → (¬ (M3.1 1 9) = 0) → ∀ M4, Q3 M4 → ((M4.1 1 9) = 0) → pg_Ev S Λ YX5_addClash d [.ref v1, .int x2, .int x3] M4 (fun r M' => r = none ∧ Q4 M'))
    (k1 : ∀ M1, Q0 M1 → ∀ x2 M2, Q1 x2 M2 → ((M2.1 1 9) = 0) → ∀ x3 M3, Q2 x3 M3 → (¬ (M3.1 1 9) = 0) → ∀ M4, Q3 M4 → ((M4.1 1 9) = 0) → ∀ M5, Q4 M5 → P none M5)
    (e5 : ∀ M1, Q0 M1 → ∀ x2 M2, Q1 x2 M2 → ((M2.1 1 9) = 0) → ∀ x3 M3, Q2 x3 M3 → ((M3.1 1 9) = 0) → (x2 = x3) → pg_Ev S Λ YX7_fail d [.ref 1, .int 3] M3 (fun r M' => r = none ∧ Q5 M'))
    (e6 : ∀ M1, Q0 M1 → ∀ x2 M2, Q1 x2 M2 → ((M2.1 1 9) = 0) → ∀ x3 M3, Q2 x3 M3 → ((M3.1 1 9) = 0) → (x2 = x3) → ∀ M6, Q5 M6 → pg_Ev S Λ YX7_next d [.ref 1] M6 (fun r M' => r = none ∧ Q6 M'))
    (k2 : ∀ M1, Q0 M1 → ∀ x2 M2, Q1 x2 M2 → ((M2.1 1 9) = 0) → ∀ x3 M3, Q2 x3 M3 → ((M3.1 1 9) = 0) → (x2 = x3) → ∀ M6, Q5 M6 → ∀ M7, Q6 M7 → (¬ (M7.1 1 9) = 0) → P none M7)
    (e7 : ∀ M1, Q0 M1 → ∀ x2 M2, Q1 x2 M2 → ((M2.1 1 9) = 0) → ∀ x3 M3, Q2 x3 M3 → ((M3.1 1 9) = 0) → (x2 = x3) → ∀ M6, Q5 M6 → ∀ M7, Q6 M7 → ((M7.1 1 9) = 0) → pg_Ev S Λ YX5_addClash d [.ref v1, .int x2, .int x3] M7 (fun r M' => r = none ∧ Q7 M'))
    (k3 : ∀ M1, Q0 M1 → ∀ x2 M2, Q1 x2 M2 → ((M2.1 1 9) = 0) → ∀ x3 M3, Q2 x3 M3 → ((M3.1 1 9) = 0) → (x2 = x3) → ∀ M6, Q5 M6 → ∀ M7, Q6 M7 → ((M7.1 1 9) = 0) → ∀ M8, Q7 M8 → P none M8)
    (e8 : ∀ M1, Q0 M1 → ∀ x2 M2, Q1 x2 M2 → ((M2.1 1 9) = 0) → ∀ x3 M3, Q2 x3 M3 → ((M3.1 1 9) = 0) → (¬ x2 = x3) → pg_Ev S Λ YX5_clashTold d [.ref v1, .int x2, .int x3] M3 (fun r M' => ∃ x, r = some (.int x) ∧ Q8 x M'))
    (e9 : ∀ M1, Q0 M1 → ∀ x2 M2, Q1 x2 M2 → ((M2.1 1 9) = 0) → ∀ x3 M3, Q2 x3 M3 → ((M3.1 1 9) = 0) → (¬ x2 = x3) → ∀ x9 M9, Q8 x9 M9 → (x9 = 0) → pg_Ev S Λ YX7_next d [.ref 1] M9 (fun r M' => r = none ∧ Q9 M'))
    (k4 : ∀ M1, Q0 M1 → ∀ x2 M2, Q1 x2 M2 → ((M2.1 1 9) = 0) → ∀ x3 M3, Q2 x3 M3 → ((M3.1 1 9) = 0) → (¬ x2 = x3) → ∀ x9 M9, Q8 x9 M9 → (x9 = 0) → ∀ M10, Q9 M10 → (¬ (M10.1 1 9) = 0) → P none M10)
    (e10 : ∀ M1, Q0 M1 → ∀ x2 M2, Q1 x2 M2 → ((M2.1 1 9) = 0) → ∀ x3 M3, Q2 x3 M3 → ((M3.1 1 9) = 0) → (¬ x2 = x3) → ∀ x9 M9, Q8 x9 M9 → (x9 = 0) → ∀ M10, Q9 M10 → ((M10.1 1 9) = 0) → pg_Ev S Λ YX5_addClash d [.ref v1, .int x2, .int x3] M10 (fun r M' => r = none ∧ Q10 M'))
    (k5 : ∀ M1, Q0 M1 → ∀ x2 M2, Q1 x2 M2 → ((M2.1 1 9) = 0) → ∀ x3 M3, Q2 x3 M3 → ((M3.1 1 9) = 0) → (¬ x2 = x3) → ∀ x9 M9, Q8 x9 M9 → (x9 = 0) → ∀ M10, Q9 M10 → ((M10.1 1 9) = 0) → ∀ M11, Q10 M11 → P none M11)
    (e11 : ∀ M1, Q0 M1 → ∀ x2 M2, Q1 x2 M2 → ((M2.1 1 9) = 0) → ∀ x3 M3, Q2 x3 M3 → ((M3.1 1 9) = 0) → (¬ x2 = x3) → ∀ x9 M9, Q8 x9 M9 → (¬ x9 = 0) → pg_Ev S Λ YX7_fail d [.ref 1, .int 3] M9 (fun r M' => r = none ∧ Q11 M'))
    (e12 : ∀ M1, Q0 M1 → ∀ x2 M2, Q1 x2 M2 → ((M2.1 1 9) = 0) → ∀ x3 M3, Q2 x3 M3 → ((M3.1 1 9) = 0) → (¬ x2 = x3) → ∀ x9 M9, Q8 x9 M9 → (¬ x9 = 0) → ∀ M12, Q11 M12 → pg_Ev S Λ YX7_next d [.ref 1] M12 (fun r M' => r = none ∧ Q12 M'))
    (k6 : ∀ M1, Q0 M1 → ∀ x2 M2, Q1 x2 M2 → ((M2.1 1 9) = 0) → ∀ x3 M3, Q2 x3 M3 → ((M3.1 1 9) = 0) → (¬ x2 = x3) → ∀ x9 M9, Q8 x9 M9 → (¬ x9 = 0) → ∀ M12, Q11 M12 → ∀ M13, Q12 M13 → (¬ (M13.1 1 9) = 0) → P none M13)
    (e13 : ∀ M1, Q0 M1 → ∀ x2 M2, Q1 x2 M2 → ((M2.1 1 9) = 0) → ∀ x3 M3, Q2 x3 M3 → ((M3.1 1 9) = 0) → (¬ x2 = x3) → ∀ x9 M9, Q8 x9 M9 → (¬ x9 = 0) → ∀ M12, Q11 M12 → ∀ M13, Q12 M13 → ((M13.1 1 9) = 0) → pg_Ev S Λ YX5_addClash d [.ref v1, .int x2, .int x3] M13 (fun r M' => r = none ∧ Q13 M'))
    (k7 : ∀ M1, Q0 M1 → ∀ x2 M2, Q1 x2 M2 → ((M2.1 1 9) = 0) → ∀ x3 M3, Q2 x3 M3 → ((M3.1 1 9) = 0) → (¬ x2 = x3) → ∀ x9 M9, Q8 x9 M9 → (¬ x9 = 0) → ∀ M12, Q11 M12 → ∀ M13, Q12 M13 → ((M13.1 1 9) = 0) → ∀ M14, Q13 M14 → P none M14)
    (k8 : ∀ M1, Q0 M1 → ∀ x2 M2, Q1 x2 M2 → (¬ (M2.1 1 9) = 0) → P none M2) :
    pg_At S Λ YX7_readClash (d + 1) 0 [(0, .ref 1), (1, .ref v1)] [] M P := by
  refine pg_aload_n (pc := 0) (i := 0) (j := 0) (x := 1) dX7_readClash_0 rfl rfl ?_
  refine pg_callV (pc := 1) (As := []) (st := []) okX7_next lkX7_52 rfl h0.1 rfl (Nat.le_refl _) (Nat.le_of_ble_eq_true rfl) e0 dX7_readClash_1 (fun r1 M1 w1 => ?_)
  obtain ⟨rfl, w1⟩ := w1
  refine pg_aload_n (pc := 4) (i := 0) (j := 0) (x := 1) dX7_readClash_4 rfl rfl ?_
  refine pg_aload_n (pc := 5) (i := 1) (j := 1) (x := v1) dX7_readClash_5 rfl rfl ?_
  refine pg_callV (pc := 6) (As := [.ref v1]) (st := []) okX7_readNamed lkX7_115 rfl h0.1 rfl (Nat.le_refl _) (Nat.le_of_ble_eq_true rfl) (e1 M1 w1) dX7_readClash_6 (fun r2 M2 w2 => ?_)
  obtain ⟨x2, rfl, w2⟩ := w2
  refine pg_istore_n (pc := 9) (i := 2) (ls' := [(2, .int x2), (0, .ref 1), (1, .ref v1)]) dX7_readClash_9 rfl (by decide) rfl ?_
  refine pg_aload_n (pc := 10) (i := 0) (j := 1) (x := 1) dX7_readClash_10 rfl rfl ?_
  refine gfX7_32 (pc := 11) rfl h0 dX7_readClash_11 ?_
  refine pg_if_eq (pc := 14) (tgt := 18) dX7_readClash_14 (by decide) (fun c0 => ?_) (fun c0 => ?_)
  · skip
    refine pg_aload_n (pc := 18) (i := 0) (j := 1) (x := 1) dX7_readClash_18 rfl rfl ?_
    refine pg_aload_n (pc := 19) (i := 1) (j := 2) (x := v1) dX7_readClash_19 rfl rfl ?_
    refine pg_callV (pc := 20) (As := [.ref v1]) (st := []) okX7_namedHere lkX7_119 rfl h0.1 rfl (Nat.le_refl _) (Nat.le_of_ble_eq_true rfl) (e2 M1 w1 x2 M2 w2 c0) dX7_readClash_20 (fun r3 M3 w3 => ?_)
    obtain ⟨x3, rfl, w3⟩ := w3
    refine pg_istore_n (pc := 23) (i := 3) (ls' := [(3, .int x3), (2, .int x2), (0, .ref 1), (1, .ref v1)]) dX7_readClash_23 rfl (by decide) rfl ?_
    refine pg_aload_n (pc := 24) (i := 0) (j := 2) (x := 1) dX7_readClash_24 rfl rfl ?_
    refine gfX7_32 (pc := 25) rfl h0 dX7_readClash_25 ?_
    refine pg_if_ne (pc := 28) (tgt := 50) dX7_readClash_28 (by decide) (fun c1 => ?_) (fun c1 => ?_)
    · skip
      refine pg_aload_n (pc := 50) (i := 0) (j := 2) (x := 1) dX7_readClash_50 rfl rfl ?_
      refine pg_callV (pc := 51) (As := []) (st := []) okX7_next lkX7_52 rfl h0.1 rfl (Nat.le_refl _) (Nat.le_of_ble_eq_true rfl) (e3 M1 w1 x2 M2 w2 c0 x3 M3 w3 c1) dX7_readClash_51 (fun r4 M4 w4 => ?_)
      obtain ⟨rfl, w4⟩ := w4
      refine pg_aload_n (pc := 54) (i := 0) (j := 2) (x := 1) dX7_readClash_54 rfl rfl ?_
      refine gfX7_32 (pc := 55) rfl h0 dX7_readClash_55 ?_
      refine pg_if_ne (pc := 58) (tgt := 67) dX7_readClash_58 (by decide) (fun c2 => ?_) (fun c2 => ?_)
      · skip
        exact pg_vret (pc := 67) rfl dX7_readClash_67 (k0 M1 w1 x2 M2 w2 c0 x3 M3 w3 c1 M4 w4 c2)
      · skip
        refine pg_aload_n (pc := 61) (i := 1) (j := 3) (x := v1) dX7_readClash_61 rfl rfl ?_
        refine pg_iload_n (pc := 62) (i := 2) (j := 1) (x := x2) dX7_readClash_62 rfl rfl ?_
        refine pg_iload_n (pc := 63) (i := 3) (j := 0) (x := x3) dX7_readClash_63 rfl rfl ?_
        refine pg_callV (pc := 64) (As := [.int x2, .int x3]) (st := []) okX5_addClash lkX7_126 rfl h1.1 rfl (Nat.le_refl _) (Nat.le_of_ble_eq_true rfl) (e4 M1 w1 x2 M2 w2 c0 x3 M3 w3 c1 M4 w4 c2) dX7_readClash_64 (fun r5 M5 w5 => ?_)
        obtain ⟨rfl, w5⟩ := w5
        exact pg_vret (pc := 67) rfl dX7_readClash_67 (k1 M1 w1 x2 M2 w2 c0 x3 M3 w3 c1 M4 w4 c2 M5 w5)
    · skip
      refine pg_iload_n (pc := 31) (i := 2) (j := 1) (x := x2) dX7_readClash_31 rfl rfl ?_
      refine pg_iload_n (pc := 32) (i := 3) (j := 0) (x := x3) dX7_readClash_32 rfl rfl ?_
      refine pg_icmp_eq (pc := 33) (tgt := 45) dX7_readClash_33 (by decide) (fun c2 => ?_) (fun c2 => ?_)
      · skip
        refine pg_aload_n (pc := 45) (i := 0) (j := 2) (x := 1) dX7_readClash_45 rfl rfl ?_
        refine pg_iconst (pc := 46) (v := 3) dX7_readClash_46 (by decide) ?_
        refine pg_callV (pc := 47) (As := [.int 3]) (st := []) okX7_fail lkX7_68 rfl h0.1 rfl (Nat.le_refl _) (Nat.le_of_ble_eq_true rfl) (e5 M1 w1 x2 M2 w2 c0 x3 M3 w3 c1 c2) dX7_readClash_47 (fun r6 M6 w6 => ?_)
        obtain ⟨rfl, w6⟩ := w6
        refine pg_aload_n (pc := 50) (i := 0) (j := 2) (x := 1) dX7_readClash_50 rfl rfl ?_
        refine pg_callV (pc := 51) (As := []) (st := []) okX7_next lkX7_52 rfl h0.1 rfl (Nat.le_refl _) (Nat.le_of_ble_eq_true rfl) (e6 M1 w1 x2 M2 w2 c0 x3 M3 w3 c1 c2 M6 w6) dX7_readClash_51 (fun r7 M7 w7 => ?_)
        obtain ⟨rfl, w7⟩ := w7
        refine pg_aload_n (pc := 54) (i := 0) (j := 2) (x := 1) dX7_readClash_54 rfl rfl ?_
        refine gfX7_32 (pc := 55) rfl h0 dX7_readClash_55 ?_
        refine pg_if_ne (pc := 58) (tgt := 67) dX7_readClash_58 (by decide) (fun c3 => ?_) (fun c3 => ?_)
        · skip
          exact pg_vret (pc := 67) rfl dX7_readClash_67 (k2 M1 w1 x2 M2 w2 c0 x3 M3 w3 c1 c2 M6 w6 M7 w7 c3)
        · skip
          refine pg_aload_n (pc := 61) (i := 1) (j := 3) (x := v1) dX7_readClash_61 rfl rfl ?_
          refine pg_iload_n (pc := 62) (i := 2) (j := 1) (x := x2) dX7_readClash_62 rfl rfl ?_
          refine pg_iload_n (pc := 63) (i := 3) (j := 0) (x := x3) dX7_readClash_63 rfl rfl ?_
          refine pg_callV (pc := 64) (As := [.int x2, .int x3]) (st := []) okX5_addClash lkX7_126 rfl h1.1 rfl (Nat.le_refl _) (Nat.le_of_ble_eq_true rfl) (e7 M1 w1 x2 M2 w2 c0 x3 M3 w3 c1 c2 M6 w6 M7 w7 c3) dX7_readClash_64 (fun r8 M8 w8 => ?_)
          obtain ⟨rfl, w8⟩ := w8
          exact pg_vret (pc := 67) rfl dX7_readClash_67 (k3 M1 w1 x2 M2 w2 c0 x3 M3 w3 c1 c2 M6 w6 M7 w7 c3 M8 w8)
      · skip
        refine pg_aload_n (pc := 36) (i := 1) (j := 3) (x := v1) dX7_readClash_36 rfl rfl ?_
        refine pg_iload_n (pc := 37) (i := 2) (j := 1) (x := x2) dX7_readClash_37 rfl rfl ?_
        refine pg_iload_n (pc := 38) (i := 3) (j := 0) (x := x3) dX7_readClash_38 rfl rfl ?_
        refine pg_callV (pc := 39) (As := [.int x2, .int x3]) (st := []) okX5_clashTold lkX7_122 rfl h1.1 rfl (Nat.le_refl _) (Nat.le_of_ble_eq_true rfl) (e8 M1 w1 x2 M2 w2 c0 x3 M3 w3 c1 c2) dX7_readClash_39 (fun r9 M9 w9 => ?_)
        obtain ⟨x9, rfl, w9⟩ := w9
        refine pg_if_eq (pc := 42) (tgt := 50) dX7_readClash_42 (by decide) (fun c3 => ?_) (fun c3 => ?_)
        · skip
          refine pg_aload_n (pc := 50) (i := 0) (j := 2) (x := 1) dX7_readClash_50 rfl rfl ?_
          refine pg_callV (pc := 51) (As := []) (st := []) okX7_next lkX7_52 rfl h0.1 rfl (Nat.le_refl _) (Nat.le_of_ble_eq_true rfl) (e9 M1 w1 x2 M2 w2 c0 x3 M3 w3 c1 c2 x9 M9 w9 c3) dX7_readClash_51 (fun r10 M10 w10 => ?_)
          obtain ⟨rfl, w10⟩ := w10
          refine pg_aload_n (pc := 54) (i := 0) (j := 2) (x := 1) dX7_readClash_54 rfl rfl ?_
          refine gfX7_32 (pc := 55) rfl h0 dX7_readClash_55 ?_
          refine pg_if_ne (pc := 58) (tgt := 67) dX7_readClash_58 (by decide) (fun c4 => ?_) (fun c4 => ?_)
          · skip
            exact pg_vret (pc := 67) rfl dX7_readClash_67 (k4 M1 w1 x2 M2 w2 c0 x3 M3 w3 c1 c2 x9 M9 w9 c3 M10 w10 c4)
          · skip
            refine pg_aload_n (pc := 61) (i := 1) (j := 3) (x := v1) dX7_readClash_61 rfl rfl ?_
            refine pg_iload_n (pc := 62) (i := 2) (j := 1) (x := x2) dX7_readClash_62 rfl rfl ?_
            refine pg_iload_n (pc := 63) (i := 3) (j := 0) (x := x3) dX7_readClash_63 rfl rfl ?_
            refine pg_callV (pc := 64) (As := [.int x2, .int x3]) (st := []) okX5_addClash lkX7_126 rfl h1.1 rfl (Nat.le_refl _) (Nat.le_of_ble_eq_true rfl) (e10 M1 w1 x2 M2 w2 c0 x3 M3 w3 c1 c2 x9 M9 w9 c3 M10 w10 c4) dX7_readClash_64 (fun r11 M11 w11 => ?_)
            obtain ⟨rfl, w11⟩ := w11
            exact pg_vret (pc := 67) rfl dX7_readClash_67 (k5 M1 w1 x2 M2 w2 c0 x3 M3 w3 c1 c2 x9 M9 w9 c3 M10 w10 c4 M11 w11)
        · skip
          refine pg_aload_n (pc := 45) (i := 0) (j := 2) (x := 1) dX7_readClash_45 rfl rfl ?_
          refine pg_iconst (pc := 46) (v := 3) dX7_readClash_46 (by decide) ?_
          refine pg_callV (pc := 47) (As := [.int 3]) (st := []) okX7_fail lkX7_68 rfl h0.1 rfl (Nat.le_refl _) (Nat.le_of_ble_eq_true rfl) (e11 M1 w1 x2 M2 w2 c0 x3 M3 w3 c1 c2 x9 M9 w9 c3) dX7_readClash_47 (fun r12 M12 w12 => ?_)
          obtain ⟨rfl, w12⟩ := w12
          refine pg_aload_n (pc := 50) (i := 0) (j := 2) (x := 1) dX7_readClash_50 rfl rfl ?_
          refine pg_callV (pc := 51) (As := []) (st := []) okX7_next lkX7_52 rfl h0.1 rfl (Nat.le_refl _) (Nat.le_of_ble_eq_true rfl) (e12 M1 w1 x2 M2 w2 c0 x3 M3 w3 c1 c2 x9 M9 w9 c3 M12 w12) dX7_readClash_51 (fun r13 M13 w13 => ?_)
          obtain ⟨rfl, w13⟩ := w13
          refine pg_aload_n (pc := 54) (i := 0) (j := 2) (x := 1) dX7_readClash_54 rfl rfl ?_
          refine gfX7_32 (pc := 55) rfl h0 dX7_readClash_55 ?_
          refine pg_if_ne (pc := 58) (tgt := 67) dX7_readClash_58 (by decide) (fun c4 => ?_) (fun c4 => ?_)
          · skip
            exact pg_vret (pc := 67) rfl dX7_readClash_67 (k6 M1 w1 x2 M2 w2 c0 x3 M3 w3 c1 c2 x9 M9 w9 c3 M12 w12 M13 w13 c4)
          · skip
            refine pg_aload_n (pc := 61) (i := 1) (j := 3) (x := v1) dX7_readClash_61 rfl rfl ?_
            refine pg_iload_n (pc := 62) (i := 2) (j := 1) (x := x2) dX7_readClash_62 rfl rfl ?_
            refine pg_iload_n (pc := 63) (i := 3) (j := 0) (x := x3) dX7_readClash_63 rfl rfl ?_
            refine pg_callV (pc := 64) (As := [.int x2, .int x3]) (st := []) okX5_addClash lkX7_126 rfl h1.1 rfl (Nat.le_refl _) (Nat.le_of_ble_eq_true rfl) (e13 M1 w1 x2 M2 w2 c0 x3 M3 w3 c1 c2 x9 M9 w9 c3 M12 w12 M13 w13 c4) dX7_readClash_64 (fun r14 M14 w14 => ?_)
            obtain ⟨rfl, w14⟩ := w14
            exact pg_vret (pc := 67) rfl dX7_readClash_67 (k7 M1 w1 x2 M2 w2 c0 x3 M3 w3 c1 c2 x9 M9 w9 c3 M12 w12 M13 w13 c4 M14 w14)
  · skip
    exact pg_vret (pc := 17) rfl dX7_readClash_17 (k8 M1 w1 x2 M2 w2 c0)
theorem oX7_readClash {d : Nat} {v1 : Nat} (h : pg_At S Λ YX7_readClash d 0 [(0, .ref 1), (1, .ref v1)] [] M P) : pg_Ev S Λ YX7_readClash d [.ref 1, .ref v1] M P := pg_Ev.of (by decide) (by first | decide | exact Nat.le_of_ble_eq_true rfl) h
theorem sX7_readOnce_0 {v1 : Nat} {v2 : Int32} {Q0 : pg_M → Prop} {Q1 : Int32 → pg_M → Prop} {Q2 : Int32 → pg_M → Prop} {Q3 : Int32 → pg_M → Prop} {Q4 : Int32 → pg_M → Prop} {Q5 : pg_M → Prop} {Q6 : pg_M → Prop} {Q7 : pg_M → Prop} {Q8 : pg_M → Prop} {Q9 : pg_M → Prop} {Q10 : pg_M → Prop} {Q11 : pg_M → Prop}
    (h0 : pg_isX7 Λ)
    (h1 : pg_isX5 Λ v1)
    (e0 : ((((M.1 1 8) >>> (v2 &&& 31)) &&& 1) = 0) → pg_Ev S Λ YX7_next d [.ref 1] (pg_si M 1 8 ((M.1 1 8) ||| ((1 : Int32) <<< (v2 &&& 31)))) (fun r M' => r = none ∧ Q0 M'))
    (e1 : ((((M.1 1 8) >>> (v2 &&& 31)) &&& 1) = 0) → ∀ M1, Q0 M1 → (v2 = 4) → pg_Ev S Λ YX7_readRow d [.ref 1, .ref (v1 + 7), .int 1, .int 9] M1 (fun r M' => ∃ x, r = some (.int x) ∧ Q1 x M'))
    (k0 : ((((M.1 1 8) >>> (v2 &&& 31)) &&& 1) = 0) → ∀ M1, Q0 M1 → (v2 = 4) → ∀ x2 M2, Q1 x2 M2 → P none (pg_si M2 v1 11 x2))
    (e2 : ((((M.1 1 8) >>> (v2 &&& 31)) &&& 1) = 0) → ∀ M1, Q0 M1 → (¬ v2 = 4) → (v2 = 5) → pg_Ev S Λ YX7_readRow d [.ref 1, .ref (v1 + 8), .int 0, .int 9] M1 (fun r M' => ∃ x, r = some (.int x) ∧ Q2 x M'))
    (k1 : ((((M.1 1 8) >>> (v2 &&& 31)) &&& 1) = 0) → ∀ M1, Q0 M1 → (¬ v2 = 4) → (v2 = 5) → ∀ x3 M3, Q2 x3 M3 → P none (pg_si M3 v1 12 x3))
    (e3 : ((((M.1 1 8) >>> (v2 &&& 31)) &&& 1) = 0) → ∀ M1, Q0 M1 → (¬ v2 = 4) → (¬ v2 = 5) → (v2 = 6) → pg_Ev S Λ YX7_readNumber d [.ref 1, .int 1, .int 60] M1 (fun r M' => ∃ x, r = some (.int x) ∧ Q3 x M'))
    (k2 : ((((M.1 1 8) >>> (v2 &&& 31)) &&& 1) = 0) → ∀ M1, Q0 M1 → (¬ v2 = 4) → (¬ v2 = 5) → (v2 = 6) → ∀ x4 M4, Q3 x4 M4 → P none (pg_si M4 v1 13 x4))
    (e4 : ((((M.1 1 8) >>> (v2 &&& 31)) &&& 1) = 0) → ∀ M1, Q0 M1 → (¬ v2 = 4) → (¬ v2 = 5) → (¬ v2 = 6) → (v2 = 7) → pg_Ev S Λ YX7_readNumber d [.ref 1, .int 0, .int 10] M1 (fun r M' => ∃ x, r = some (.int x) ∧ Q4 x M'))
    (k3 : ((((M.1 1 8) >>> (v2 &&& 31)) &&& 1) = 0) → ∀ M1, Q0 M1 → (¬ v2 = 4) → (¬ v2 = 5) → (¬ v2 = 6) → (v2 = 7) → ∀ x5 M5, Q4 x5 M5 → P none (pg_si M5 v1 14 x5))
    (e5 : ((((M.1 1 8) >>> (v2 &&& 31)) &&& 1) = 0) → ∀ M1, Q0 M1 → (¬ v2 = 4) → (¬ v2 = 5) → (¬ v2 = 6) → (¬ v2 = 7) → (v2 = 8) → pg_Ev S Λ YX8_clear d [.ref (v1 + 12)] M1 (fun r M' => r = none ∧ Q5 M'))
    (e6 : ((((M.1 1 8) >>> (v2 &&& 31)) &&& 1) = 0) → ∀ M1, Q0 M1 → (¬ v2 = 4) → (¬ v2 = 5) → (¬ v2 = 6) → (¬ v2 = 7) → (v2 = 8) → ∀ M6, Q5 M6 → pg_Ev S Λ YX7_readTests d [.ref 1, .ref (v1 + 12), .int 0] M6 (fun r M' => r = none ∧ Q6 M'))
    (k4 : ((((M.1 1 8) >>> (v2 &&& 31)) &&& 1) = 0) → ∀ M1, Q0 M1 → (¬ v2 = 4) → (¬ v2 = 5) → (¬ v2 = 6) → (¬ v2 = 7) → (v2 = 8) → ∀ M6, Q5 M6 → ∀ M7, Q6 M7 → P none M7)
    (e7 : ((((M.1 1 8) >>> (v2 &&& 31)) &&& 1) = 0) → ∀ M1, Q0 M1 → (¬ v2 = 4) → (¬ v2 = 5) → (¬ v2 = 6) → (¬ v2 = 7) → (¬ v2 = 8) → (v2 = 9) → pg_Ev S Λ YX8_clear d [.ref (v1 + 9)] M1 (fun r M' => r = none ∧ Q7 M'))
    (e8 : ((((M.1 1 8) >>> (v2 &&& 31)) &&& 1) = 0) → ∀ M1, Q0 M1 → (¬ v2 = 4) → (¬ v2 = 5) → (¬ v2 = 6) → (¬ v2 = 7) → (¬ v2 = 8) → (v2 = 9) → ∀ M8, Q7 M8 → pg_Ev S Λ YX7_readTests d [.ref 1, .ref (v1 + 9), .int 0] M8 (fun r M' => r = none ∧ Q8 M'))
    (k5 : ((((M.1 1 8) >>> (v2 &&& 31)) &&& 1) = 0) → ∀ M1, Q0 M1 → (¬ v2 = 4) → (¬ v2 = 5) → (¬ v2 = 6) → (¬ v2 = 7) → (¬ v2 = 8) → (v2 = 9) → ∀ M8, Q7 M8 → ∀ M9, Q8 M9 → P none M9)
    (e9 : ((((M.1 1 8) >>> (v2 &&& 31)) &&& 1) = 0) → ∀ M1, Q0 M1 → (¬ v2 = 4) → (¬ v2 = 5) → (¬ v2 = 6) → (¬ v2 = 7) → (¬ v2 = 8) → (¬ v2 = 9) → pg_Ev S Λ YX8_clear d [.ref (v1 + 12)] M1 (fun r M' => r = none ∧ Q9 M'))
    (e10 : ((((M.1 1 8) >>> (v2 &&& 31)) &&& 1) = 0) → ∀ M1, Q0 M1 → (¬ v2 = 4) → (¬ v2 = 5) → (¬ v2 = 6) → (¬ v2 = 7) → (¬ v2 = 8) → (¬ v2 = 9) → ∀ M10, Q9 M10 → pg_Ev S Λ YX7_readTests d [.ref 1, .ref (v1 + 12), .int 0] M10 (fun r M' => r = none ∧ Q10 M'))
    (k6 : ((((M.1 1 8) >>> (v2 &&& 31)) &&& 1) = 0) → ∀ M1, Q0 M1 → (¬ v2 = 4) → (¬ v2 = 5) → (¬ v2 = 6) → (¬ v2 = 7) → (¬ v2 = 8) → (¬ v2 = 9) → ∀ M10, Q9 M10 → ∀ M11, Q10 M11 → P none M11)
    (e11 : (¬ (((M.1 1 8) >>> (v2 &&& 31)) &&& 1) = 0) → pg_Ev S Λ YX7_fail d [.ref 1, .int 3] M (fun r M' => r = none ∧ Q11 M'))
    (k7 : (¬ (((M.1 1 8) >>> (v2 &&& 31)) &&& 1) = 0) → ∀ M12, Q11 M12 → P none M12) :
    pg_At S Λ YX7_readOnce (d + 1) 0 [(0, .ref 1), (1, .ref v1), (2, .int v2)] [] M P := by
  refine pg_aload_n (pc := 0) (i := 0) (j := 0) (x := 1) dX7_readOnce_0 rfl rfl ?_
  refine gfX7_26 (pc := 1) rfl h0 dX7_readOnce_1 ?_
  refine pg_iload_n (pc := 4) (i := 2) (j := 2) (x := v2) dX7_readOnce_4 rfl rfl ?_
  refine pg_ishr (pc := 5) dX7_readOnce_5 ?_
  refine pg_iconst (pc := 6) (v := 1) dX7_readOnce_6 (by decide) ?_
  refine pg_iand (pc := 7) dX7_readOnce_7 ?_
  refine pg_if_eq (pc := 8) (tgt := 17) dX7_readOnce_8 (by decide) (fun c0 => ?_) (fun c0 => ?_)
  · skip
    refine pg_aload_n (pc := 17) (i := 0) (j := 0) (x := 1) dX7_readOnce_17 rfl rfl ?_
    refine pg_dup (pc := 18) dX7_readOnce_18 rfl ?_
    refine gfX7_26 (pc := 19) rfl h0 dX7_readOnce_19 ?_
    refine pg_iconst (pc := 22) (v := 1) dX7_readOnce_22 (by decide) ?_
    refine pg_iload_n (pc := 23) (i := 2) (j := 2) (x := v2) dX7_readOnce_23 rfl rfl ?_
    refine pg_ishl (pc := 24) dX7_readOnce_24 ?_
    refine pg_ior (pc := 25) dX7_readOnce_25 ?_
    refine pfX7_26 (pc := 26) rfl h0 dX7_readOnce_26 ?_
    refine pg_aload_n (pc := 29) (i := 0) (j := 0) (x := 1) dX7_readOnce_29 rfl rfl ?_
    refine pg_callV (pc := 30) (As := []) (st := []) okX7_next lkX7_52 rfl h0.1 rfl (Nat.le_refl _) (Nat.le_of_ble_eq_true rfl) (e0 c0) dX7_readOnce_30 (fun r1 M1 w1 => ?_)
    obtain ⟨rfl, w1⟩ := w1
    refine pg_iload_n (pc := 33) (i := 2) (j := 2) (x := v2) dX7_readOnce_33 rfl rfl ?_
    by_cases c1 : v2 = 4
    · refine pg_tableIn (pc := 34) (tgt := 72) dX7_readOnce_34 (by rw [c1]; decide) (by rw [c1]; decide) (by rw [c1]; rfl) (by decide) ?_
      refine pg_aload_n (pc := 72) (i := 1) (j := 1) (x := v1) dX7_readOnce_72 rfl rfl ?_
      refine pg_aload_n (pc := 73) (i := 0) (j := 0) (x := 1) dX7_readOnce_73 rfl rfl ?_
      refine pg_aload_n (pc := 74) (i := 1) (j := 1) (x := v1) dX7_readOnce_74 rfl rfl ?_
      refine gfX7_130 (pc := 75) rfl h1 dX7_readOnce_75 ?_
      refine pg_iconst (pc := 78) (v := 1) dX7_readOnce_78 (by decide) ?_
      refine pg_bipush (pc := 79) (v := 9) dX7_readOnce_79 (by decide) ?_
      refine pg_callV (pc := 81) (As := [.ref (v1 + 7), .int 1, .int 9]) (st := [.ref v1]) okX7_readRow lkX7_133 rfl h0.1 rfl (Nat.le_refl _) (Nat.le_of_ble_eq_true rfl) (e1 c0 M1 w1 c1) dX7_readOnce_81 (fun r2 M2 w2 => ?_)
      obtain ⟨x2, rfl, w2⟩ := w2
      refine pfX7_137 (pc := 84) rfl h1 dX7_readOnce_84 ?_
      refine pg_goto (pc := 87) (tgt := 171) dX7_readOnce_87 (by decide) ?_
      exact pg_vret (pc := 171) rfl dX7_readOnce_171 (k0 c0 M1 w1 c1 x2 M2 w2)
    by_cases c2 : v2 = 5
    · refine pg_tableIn (pc := 34) (tgt := 90) dX7_readOnce_34 (by rw [c2]; decide) (by rw [c2]; decide) (by rw [c2]; rfl) (by decide) ?_
      refine pg_aload_n (pc := 90) (i := 1) (j := 1) (x := v1) dX7_readOnce_90 rfl rfl ?_
      refine pg_aload_n (pc := 91) (i := 0) (j := 0) (x := 1) dX7_readOnce_91 rfl rfl ?_
      refine pg_aload_n (pc := 92) (i := 1) (j := 1) (x := v1) dX7_readOnce_92 rfl rfl ?_
      refine gfX7_140 (pc := 93) rfl h1 dX7_readOnce_93 ?_
      refine pg_iconst (pc := 96) (v := 0) dX7_readOnce_96 (by decide) ?_
      refine pg_bipush (pc := 97) (v := 9) dX7_readOnce_97 (by decide) ?_
      refine pg_callV (pc := 99) (As := [.ref (v1 + 8), .int 0, .int 9]) (st := [.ref v1]) okX7_readRow lkX7_133 rfl h0.1 rfl (Nat.le_refl _) (Nat.le_of_ble_eq_true rfl) (e2 c0 M1 w1 c1 c2) dX7_readOnce_99 (fun r3 M3 w3 => ?_)
      obtain ⟨x3, rfl, w3⟩ := w3
      refine pfX7_143 (pc := 102) rfl h1 dX7_readOnce_102 ?_
      refine pg_goto (pc := 105) (tgt := 171) dX7_readOnce_105 (by decide) ?_
      exact pg_vret (pc := 171) rfl dX7_readOnce_171 (k1 c0 M1 w1 c1 c2 x3 M3 w3)
    by_cases c3 : v2 = 6
    · refine pg_tableIn (pc := 34) (tgt := 108) dX7_readOnce_34 (by rw [c3]; decide) (by rw [c3]; decide) (by rw [c3]; rfl) (by decide) ?_
      refine pg_aload_n (pc := 108) (i := 1) (j := 1) (x := v1) dX7_readOnce_108 rfl rfl ?_
      refine pg_aload_n (pc := 109) (i := 0) (j := 0) (x := 1) dX7_readOnce_109 rfl rfl ?_
      refine pg_iconst (pc := 110) (v := 1) dX7_readOnce_110 (by decide) ?_
      refine pg_bipush (pc := 111) (v := 60) dX7_readOnce_111 (by decide) ?_
      refine pg_callV (pc := 113) (As := [.int 1, .int 60]) (st := [.ref v1]) okX7_readNumber lkX7_111 rfl h0.1 rfl (Nat.le_refl _) (Nat.le_of_ble_eq_true rfl) (e3 c0 M1 w1 c1 c2 c3) dX7_readOnce_113 (fun r4 M4 w4 => ?_)
      obtain ⟨x4, rfl, w4⟩ := w4
      refine pfX7_146 (pc := 116) rfl h1 dX7_readOnce_116 ?_
      refine pg_goto (pc := 119) (tgt := 171) dX7_readOnce_119 (by decide) ?_
      exact pg_vret (pc := 171) rfl dX7_readOnce_171 (k2 c0 M1 w1 c1 c2 c3 x4 M4 w4)
    by_cases c4 : v2 = 7
    · refine pg_tableIn (pc := 34) (tgt := 122) dX7_readOnce_34 (by rw [c4]; decide) (by rw [c4]; decide) (by rw [c4]; rfl) (by decide) ?_
      refine pg_aload_n (pc := 122) (i := 1) (j := 1) (x := v1) dX7_readOnce_122 rfl rfl ?_
      refine pg_aload_n (pc := 123) (i := 0) (j := 0) (x := 1) dX7_readOnce_123 rfl rfl ?_
      refine pg_iconst (pc := 124) (v := 0) dX7_readOnce_124 (by decide) ?_
      refine pg_bipush (pc := 125) (v := 10) dX7_readOnce_125 (by decide) ?_
      refine pg_callV (pc := 127) (As := [.int 0, .int 10]) (st := [.ref v1]) okX7_readNumber lkX7_111 rfl h0.1 rfl (Nat.le_refl _) (Nat.le_of_ble_eq_true rfl) (e4 c0 M1 w1 c1 c2 c3 c4) dX7_readOnce_127 (fun r5 M5 w5 => ?_)
      obtain ⟨x5, rfl, w5⟩ := w5
      refine pfX7_149 (pc := 130) rfl h1 dX7_readOnce_130 ?_
      refine pg_goto (pc := 133) (tgt := 171) dX7_readOnce_133 (by decide) ?_
      exact pg_vret (pc := 171) rfl dX7_readOnce_171 (k3 c0 M1 w1 c1 c2 c3 c4 x5 M5 w5)
    by_cases c5 : v2 = 8
    · refine pg_tableIn (pc := 34) (tgt := 155) dX7_readOnce_34 (by rw [c5]; decide) (by rw [c5]; decide) (by rw [c5]; rfl) (by decide) ?_
      refine pg_aload_n (pc := 155) (i := 1) (j := 1) (x := v1) dX7_readOnce_155 rfl rfl ?_
      refine gfX7_163 (pc := 156) rfl h1 dX7_readOnce_156 ?_
      refine pg_callV (pc := 159) (As := []) (st := []) okX8_clear lkX7_156 rfl (pg_isX5.r9 h1).1 rfl (Nat.le_refl _) (Nat.le_of_ble_eq_true rfl) (e5 c0 M1 w1 c1 c2 c3 c4 c5) dX7_readOnce_159 (fun r6 M6 w6 => ?_)
      obtain ⟨rfl, w6⟩ := w6
      refine pg_aload_n (pc := 162) (i := 0) (j := 0) (x := 1) dX7_readOnce_162 rfl rfl ?_
      refine pg_aload_n (pc := 163) (i := 1) (j := 1) (x := v1) dX7_readOnce_163 rfl rfl ?_
      refine gfX7_163 (pc := 164) rfl h1 dX7_readOnce_164 ?_
      refine pg_iconst (pc := 167) (v := 0) dX7_readOnce_167 (by decide) ?_
      refine pg_callV (pc := 168) (As := [.ref (v1 + 12), .int 0]) (st := []) okX7_readTests lkX7_159 rfl h0.1 rfl (Nat.le_refl _) (Nat.le_of_ble_eq_true rfl) (e6 c0 M1 w1 c1 c2 c3 c4 c5 M6 w6) dX7_readOnce_168 (fun r7 M7 w7 => ?_)
      obtain ⟨rfl, w7⟩ := w7
      exact pg_vret (pc := 171) rfl dX7_readOnce_171 (k4 c0 M1 w1 c1 c2 c3 c4 c5 M6 w6 M7 w7)
    by_cases c6 : v2 = 9
    · refine pg_tableIn (pc := 34) (tgt := 136) dX7_readOnce_34 (by rw [c6]; decide) (by rw [c6]; decide) (by rw [c6]; rfl) (by decide) ?_
      refine pg_aload_n (pc := 136) (i := 1) (j := 1) (x := v1) dX7_readOnce_136 rfl rfl ?_
      refine gfX7_152 (pc := 137) rfl h1 dX7_readOnce_137 ?_
      refine pg_callV (pc := 140) (As := []) (st := []) okX8_clear lkX7_156 rfl (pg_isX5.r8 h1).1 rfl (Nat.le_refl _) (Nat.le_of_ble_eq_true rfl) (e7 c0 M1 w1 c1 c2 c3 c4 c5 c6) dX7_readOnce_140 (fun r8 M8 w8 => ?_)
      obtain ⟨rfl, w8⟩ := w8
      refine pg_aload_n (pc := 143) (i := 0) (j := 0) (x := 1) dX7_readOnce_143 rfl rfl ?_
      refine pg_aload_n (pc := 144) (i := 1) (j := 1) (x := v1) dX7_readOnce_144 rfl rfl ?_
      refine gfX7_152 (pc := 145) rfl h1 dX7_readOnce_145 ?_
      refine pg_iconst (pc := 148) (v := 0) dX7_readOnce_148 (by decide) ?_
      refine pg_callV (pc := 149) (As := [.ref (v1 + 9), .int 0]) (st := []) okX7_readTests lkX7_159 rfl h0.1 rfl (Nat.le_refl _) (Nat.le_of_ble_eq_true rfl) (e8 c0 M1 w1 c1 c2 c3 c4 c5 c6 M8 w8) dX7_readOnce_149 (fun r9 M9 w9 => ?_)
      obtain ⟨rfl, w9⟩ := w9
      refine pg_goto (pc := 152) (tgt := 171) dX7_readOnce_152 (by decide) ?_
      exact pg_vret (pc := 171) rfl dX7_readOnce_171 (k5 c0 M1 w1 c1 c2 c3 c4 c5 c6 M8 w8 M9 w9)
    have g0 : v2.toInt ≠ 4 := pg_ne c1 (by decide)
    have g1 : v2.toInt ≠ 5 := pg_ne c2 (by decide)
    have g2 : v2.toInt ≠ 6 := pg_ne c3 (by decide)
    have g3 : v2.toInt ≠ 7 := pg_ne c4 (by decide)
    have g4 : v2.toInt ≠ 8 := pg_ne c5 (by decide)
    have g5 : v2.toInt ≠ 9 := pg_ne c6 (by decide)
    refine pg_tableOut (pc := 34) (tgt := 155) dX7_readOnce_34 (by omega) (by decide) ?_
    refine pg_aload_n (pc := 155) (i := 1) (j := 1) (x := v1) dX7_readOnce_155 rfl rfl ?_
    refine gfX7_163 (pc := 156) rfl h1 dX7_readOnce_156 ?_
    refine pg_callV (pc := 159) (As := []) (st := []) okX8_clear lkX7_156 rfl (pg_isX5.r9 h1).1 rfl (Nat.le_refl _) (Nat.le_of_ble_eq_true rfl) (e9 c0 M1 w1 c1 c2 c3 c4 c5 c6) dX7_readOnce_159 (fun r10 M10 w10 => ?_)
    obtain ⟨rfl, w10⟩ := w10
    refine pg_aload_n (pc := 162) (i := 0) (j := 0) (x := 1) dX7_readOnce_162 rfl rfl ?_
    refine pg_aload_n (pc := 163) (i := 1) (j := 1) (x := v1) dX7_readOnce_163 rfl rfl ?_
    refine gfX7_163 (pc := 164) rfl h1 dX7_readOnce_164 ?_
    refine pg_iconst (pc := 167) (v := 0) dX7_readOnce_167 (by decide) ?_
    refine pg_callV (pc := 168) (As := [.ref (v1 + 12), .int 0]) (st := []) okX7_readTests lkX7_159 rfl h0.1 rfl (Nat.le_refl _) (Nat.le_of_ble_eq_true rfl) (e10 c0 M1 w1 c1 c2 c3 c4 c5 c6 M10 w10) dX7_readOnce_168 (fun r11 M11 w11 => ?_)
    obtain ⟨rfl, w11⟩ := w11
    exact pg_vret (pc := 171) rfl dX7_readOnce_171 (k6 c0 M1 w1 c1 c2 c3 c4 c5 c6 M10 w10 M11 w11)
  · skip
    refine pg_aload_n (pc := 11) (i := 0) (j := 0) (x := 1) dX7_readOnce_11 rfl rfl ?_
    refine pg_iconst (pc := 12) (v := 3) dX7_readOnce_12 (by decide) ?_
    refine pg_callV (pc := 13) (As := [.int 3]) (st := []) okX7_fail lkX7_68 rfl h0.1 rfl (Nat.le_refl _) (Nat.le_of_ble_eq_true rfl) (e11 c0) dX7_readOnce_13 (fun r12 M12 w12 => ?_)
    obtain ⟨rfl, w12⟩ := w12
    exact pg_vret (pc := 16) rfl dX7_readOnce_16 (k7 c0 M12 w12)
theorem oX7_readOnce {d : Nat} {v1 : Nat} {v2 : Int32} (h : pg_At S Λ YX7_readOnce d 0 [(0, .ref 1), (1, .ref v1), (2, .int v2)] [] M P) : pg_Ev S Λ YX7_readOnce d [.ref 1, .ref v1, .int v2] M P := pg_Ev.of (by decide) (by first | decide | exact Nat.le_of_ble_eq_true rfl) h
theorem sX7_readRow_0 {v1 : Nat} {v2 : Int32} {v3 : Int32} 
    (k0 : pg_At S Λ YX7_readRow (d + 1) 6 [(0, .ref 1), (1, .ref v1), (2, .int v2), (3, .int v3), (4, .int 0), (5, .int 0)] [] M P) :
    pg_At S Λ YX7_readRow (d + 1) 0 [(0, .ref 1), (1, .ref v1), (2, .int v2), (3, .int v3)] [] M P := by
  refine pg_iconst (pc := 0) (v := 0) dX7_readRow_0 (by decide) ?_
  refine pg_istore (pc := 1) (i := 4) (ls' := [(4, .int 0), (0, .ref 1), (1, .ref v1), (2, .int v2), (3, .int v3)]) dX7_readRow_1 (by decide) rfl ?_
  refine pg_iconst (pc := 3) (v := 0) dX7_readRow_3 (by decide) ?_
  refine pg_istore (pc := 4) (i := 5) (ls' := [(5, .int 0), (4, .int 0), (0, .ref 1), (1, .ref v1), (2, .int v2), (3, .int v3)]) dX7_readRow_4 (by decide) rfl ?_
  refine pg_drop (ks := [2, 3, 4, 5, 1, 0]) (ls' := [(0, .ref 1), (1, .ref v1), (2, .int v2), (3, .int v3), (4, .int 0), (5, .int 0)]) rfl ?_
  exact k0
theorem sX7_readRow_6 {v1 : Nat} {v2 : Int32} {v3 : Int32} {v4 : Int32} {v5 : Int32} {n_v1 : Nat} 
    (h0 : Λ v1 = some (.inr (.int, n_v1, none)))
    (h1 : pg_isX7 Λ)
    (k0 : ((Int32.ofNat n_v1) < v5) → P (some (.int v4)) M)
    (k1 : (¬ (Int32.ofNat n_v1) < v5) → (¬ (M.1 1 9) = 0) → P (some (.int v4)) M)
    (k2 : (¬ (Int32.ofNat n_v1) < v5) → ((M.1 1 9) = 0) → (v5 = 0) → pg_At S Λ YX7_readRow (d + 1) 33 [(0, .ref 1), (1, .ref v1), (2, .int v2), (3, .int v3), (4, .int v4), (5, .int v5)] [] M P)
    (k3 : (¬ (Int32.ofNat n_v1) < v5) → ((M.1 1 9) = 0) → (¬ v5 = 0) → (¬ (M.1 1 4) = 3) → P (some (.int v4)) M)
    (k4 : (¬ (Int32.ofNat n_v1) < v5) → ((M.1 1 9) = 0) → (¬ v5 = 0) → ((M.1 1 4) = 3) → pg_At S Λ YX7_readRow (d + 1) 33 [(0, .ref 1), (1, .ref v1), (2, .int v2), (3, .int v3), (4, .int v4), (5, .int v5)] [] M P) :
    pg_At S Λ YX7_readRow (d + 1) 6 [(0, .ref 1), (1, .ref v1), (2, .int v2), (3, .int v3), (4, .int v4), (5, .int v5)] [] M P := by
  refine pg_iload (pc := 6) (i := 5) (j := 5) (x := v5) dX7_readRow_6 rfl ?_
  refine pg_aload_n (pc := 8) (i := 1) (j := 1) (x := v1) dX7_readRow_8 rfl rfl ?_
  refine pg_alen (pc := 9) h0 0 rfl dX7_readRow_9 ?_
  refine pg_icmp_gt (pc := 10) (tgt := 86) dX7_readRow_10 (by decide) (fun c0 => ?_) (fun c0 => ?_)
  · skip
    refine pg_iload (pc := 86) (i := 4) (j := 4) (x := v4) dX7_readRow_86 rfl ?_
    exact pg_iret (pc := 88) rfl dX7_readRow_88 (k0 c0)
  · skip
    refine pg_aload_n (pc := 13) (i := 0) (j := 0) (x := 1) dX7_readRow_13 rfl rfl ?_
    refine gfX7_32 (pc := 14) rfl h1 dX7_readRow_14 ?_
    refine pg_if_ne (pc := 17) (tgt := 86) dX7_readRow_17 (by decide) (fun c1 => ?_) (fun c1 => ?_)
    · skip
      refine pg_iload (pc := 86) (i := 4) (j := 4) (x := v4) dX7_readRow_86 rfl ?_
      exact pg_iret (pc := 88) rfl dX7_readRow_88 (k1 c0 c1)
    · skip
      refine pg_iload (pc := 20) (i := 5) (j := 5) (x := v5) dX7_readRow_20 rfl ?_
      refine pg_if_eq (pc := 22) (tgt := 33) dX7_readRow_22 (by decide) (fun c2 => ?_) (fun c2 => ?_)
      · skip
        exact k2 c0 c1 c2
      · skip
        refine pg_aload_n (pc := 25) (i := 0) (j := 0) (x := 1) dX7_readRow_25 rfl rfl ?_
        refine gfX7_35 (pc := 26) rfl h1 dX7_readRow_26 ?_
        refine pg_iconst (pc := 29) (v := 3) dX7_readRow_29 (by decide) ?_
        refine pg_icmp_ne (pc := 30) (tgt := 86) dX7_readRow_30 (by decide) (fun c3 => ?_) (fun c3 => ?_)
        · skip
          refine pg_iload (pc := 86) (i := 4) (j := 4) (x := v4) dX7_readRow_86 rfl ?_
          exact pg_iret (pc := 88) rfl dX7_readRow_88 (k3 c0 c1 c2 c3)
        · skip
          exact k4 c0 c1 c2 c3
theorem sX7_readRow_33 {v1 : Nat} {v2 : Int32} {v3 : Int32} {v4 : Int32} {v5 : Int32} {n_v1 : Nat} {Q0 : Int32 → pg_M → Prop} {Q1 : pg_M → Prop} {Q2 : pg_M → Prop} {Q3 : pg_M → Prop} {Q4 : pg_M → Prop} {Q5 : pg_M → Prop} {Q6 : pg_M → Prop} {Q7 : pg_M → Prop}
    (h0 : pg_isX7 Λ)
    (h1 : Λ v1 = some (.inr (.int, n_v1, none)))
    (e0 : pg_Ev S Λ YX7_numberHere d [.ref 1, .int v2, .int v3] M (fun r M' => ∃ x, r = some (.int x) ∧ Q0 x M'))
    (e1 : ∀ x1 M1, Q0 x1 M1 → (¬ (M1.1 1 9) = 0) → (¬ (M1.1 1 9) = 0) → pg_Ev S Λ YX7_next d [.ref 1] M1 (fun r M' => r = none ∧ Q1 M'))
    (k0 : ∀ x1 M1, Q0 x1 M1 → (¬ (M1.1 1 9) = 0) → (¬ (M1.1 1 9) = 0) → ∀ M2, Q1 M2 → pg_At S Λ YX7_readRow (d + 1) 6 [(0, .ref 1), (1, .ref v1), (2, .int v2), (3, .int v3), (4, .int v4), (5, .int (v5 + 1))] [] M2 P)
    (b0 : ∀ x1 M1, Q0 x1 M1 → (¬ (M1.1 1 9) = 0) → ((M1.1 1 9) = 0) → vp_in v4 n_v1)
    (e2 : ∀ x1 M1, Q0 x1 M1 → (¬ (M1.1 1 9) = 0) → ((M1.1 1 9) = 0) → pg_Ev S Λ YX7_next d [.ref 1] (pg_si M1 v1 v4.toNatClampNeg x1) (fun r M' => r = none ∧ Q2 M'))
    (k1 : ∀ x1 M1, Q0 x1 M1 → (¬ (M1.1 1 9) = 0) → ((M1.1 1 9) = 0) → ∀ M3, Q2 M3 → pg_At S Λ YX7_readRow (d + 1) 6 [(0, .ref 1), (1, .ref v1), (2, .int v2), (3, .int v3), (4, .int (v4 + 1)), (5, .int (v5 + 1))] [] M3 P)
    (e3 : ∀ x1 M1, Q0 x1 M1 → ((M1.1 1 9) = 0) → (v4 < (Int32.ofNat n_v1)) → (¬ (M1.1 1 9) = 0) → pg_Ev S Λ YX7_next d [.ref 1] M1 (fun r M' => r = none ∧ Q3 M'))
    (k2 : ∀ x1 M1, Q0 x1 M1 → ((M1.1 1 9) = 0) → (v4 < (Int32.ofNat n_v1)) → (¬ (M1.1 1 9) = 0) → ∀ M4, Q3 M4 → pg_At S Λ YX7_readRow (d + 1) 6 [(0, .ref 1), (1, .ref v1), (2, .int v2), (3, .int v3), (4, .int v4), (5, .int (v5 + 1))] [] M4 P)
    (b1 : ∀ x1 M1, Q0 x1 M1 → ((M1.1 1 9) = 0) → (v4 < (Int32.ofNat n_v1)) → ((M1.1 1 9) = 0) → vp_in v4 n_v1)
    (e4 : ∀ x1 M1, Q0 x1 M1 → ((M1.1 1 9) = 0) → (v4 < (Int32.ofNat n_v1)) → ((M1.1 1 9) = 0) → pg_Ev S Λ YX7_next d [.ref 1] (pg_si M1 v1 v4.toNatClampNeg x1) (fun r M' => r = none ∧ Q4 M'))
    (k3 : ∀ x1 M1, Q0 x1 M1 → ((M1.1 1 9) = 0) → (v4 < (Int32.ofNat n_v1)) → ((M1.1 1 9) = 0) → ∀ M5, Q4 M5 → pg_At S Λ YX7_readRow (d + 1) 6 [(0, .ref 1), (1, .ref v1), (2, .int v2), (3, .int v3), (4, .int (v4 + 1)), (5, .int (v5 + 1))] [] M5 P)
    (e5 : ∀ x1 M1, Q0 x1 M1 → ((M1.1 1 9) = 0) → (¬ v4 < (Int32.ofNat n_v1)) → pg_Ev S Λ YX7_fail d [.ref 1, .int 5] M1 (fun r M' => r = none ∧ Q5 M'))
    (e6 : ∀ x1 M1, Q0 x1 M1 → ((M1.1 1 9) = 0) → (¬ v4 < (Int32.ofNat n_v1)) → ∀ M6, Q5 M6 → (¬ (M6.1 1 9) = 0) → pg_Ev S Λ YX7_next d [.ref 1] M6 (fun r M' => r = none ∧ Q6 M'))
    (k4 : ∀ x1 M1, Q0 x1 M1 → ((M1.1 1 9) = 0) → (¬ v4 < (Int32.ofNat n_v1)) → ∀ M6, Q5 M6 → (¬ (M6.1 1 9) = 0) → ∀ M7, Q6 M7 → pg_At S Λ YX7_readRow (d + 1) 6 [(0, .ref 1), (1, .ref v1), (2, .int v2), (3, .int v3), (4, .int v4), (5, .int (v5 + 1))] [] M7 P)
    (b2 : ∀ x1 M1, Q0 x1 M1 → ((M1.1 1 9) = 0) → (¬ v4 < (Int32.ofNat n_v1)) → ∀ M6, Q5 M6 → ((M6.1 1 9) = 0) → vp_in v4 n_v1)
    (e7 : ∀ x1 M1, Q0 x1 M1 → ((M1.1 1 9) = 0) → (¬ v4 < (Int32.ofNat n_v1)) → ∀ M6, Q5 M6 → ((M6.1 1 9) = 0) → pg_Ev S Λ YX7_next d [.ref 1] (pg_si M6 v1 v4.toNatClampNeg x1) (fun r M' => r = none ∧ Q7 M'))
    (k5 : ∀ x1 M1, Q0 x1 M1 → ((M1.1 1 9) = 0) → (¬ v4 < (Int32.ofNat n_v1)) → ∀ M6, Q5 M6 → ((M6.1 1 9) = 0) → ∀ M8, Q7 M8 → pg_At S Λ YX7_readRow (d + 1) 6 [(0, .ref 1), (1, .ref v1), (2, .int v2), (3, .int v3), (4, .int (v4 + 1)), (5, .int (v5 + 1))] [] M8 P) :
    pg_At S Λ YX7_readRow (d + 1) 33 [(0, .ref 1), (1, .ref v1), (2, .int v2), (3, .int v3), (4, .int v4), (5, .int v5)] [] M P := by
  refine pg_aload_n (pc := 33) (i := 0) (j := 0) (x := 1) dX7_readRow_33 rfl rfl ?_
  refine pg_iload_n (pc := 34) (i := 2) (j := 2) (x := v2) dX7_readRow_34 rfl rfl ?_
  refine pg_iload_n (pc := 35) (i := 3) (j := 3) (x := v3) dX7_readRow_35 rfl rfl ?_
  refine pg_callV (pc := 36) (As := [.int v2, .int v3]) (st := []) okX7_numberHere lkX7_166 rfl h0.1 rfl (Nat.le_refl _) (Nat.le_of_ble_eq_true rfl) e0 dX7_readRow_36 (fun r1 M1 w1 => ?_)
  obtain ⟨x1, rfl, w1⟩ := w1
  refine pg_istore (pc := 39) (i := 6) (ls' := [(6, .int x1), (0, .ref 1), (1, .ref v1), (2, .int v2), (3, .int v3), (4, .int v4), (5, .int v5)]) dX7_readRow_39 (by decide) rfl ?_
  refine pg_aload_n (pc := 41) (i := 0) (j := 1) (x := 1) dX7_readRow_41 rfl rfl ?_
  refine gfX7_32 (pc := 42) rfl h0 dX7_readRow_42 ?_
  refine pg_if_ne (pc := 45) (tgt := 60) dX7_readRow_45 (by decide) (fun c0 => ?_) (fun c0 => ?_)
  · skip
    refine pg_aload_n (pc := 60) (i := 0) (j := 1) (x := 1) dX7_readRow_60 rfl rfl ?_
    refine gfX7_32 (pc := 61) rfl h0 dX7_readRow_61 ?_
    refine pg_if_ne (pc := 64) (tgt := 76) dX7_readRow_64 (by decide) (fun c1 => ?_) (fun c1 => ?_)
    · skip
      refine pg_aload_n (pc := 76) (i := 0) (j := 1) (x := 1) dX7_readRow_76 rfl rfl ?_
      refine pg_callV (pc := 77) (As := []) (st := []) okX7_next lkX7_52 rfl h0.1 rfl (Nat.le_refl _) (Nat.le_of_ble_eq_true rfl) (e1 x1 M1 w1 c0 c1) dX7_readRow_77 (fun r2 M2 w2 => ?_)
      obtain ⟨rfl, w2⟩ := w2
      refine pg_iinc (pc := 80) (i := 5) (j := 6) (x := v5) (v := v5 + 1) (ls' := [(5, .int (v5 + 1)), (6, .int x1), (0, .ref 1), (1, .ref v1), (2, .int v2), (3, .int v3), (4, .int v4)]) dX7_readRow_80 rfl rfl (by decide) rfl ?_
      refine pg_goto (pc := 83) (tgt := 6) dX7_readRow_83 (by decide) ?_
      refine pg_drop (ks := [2, 3, 4, 5, 6, 0]) (ls' := [(0, .ref 1), (1, .ref v1), (2, .int v2), (3, .int v3), (4, .int v4), (5, .int (v5 + 1))]) rfl ?_
      exact k0 x1 M1 w1 c0 c1 M2 w2
    · skip
      refine pg_aload_n (pc := 67) (i := 1) (j := 2) (x := v1) dX7_readRow_67 rfl rfl ?_
      refine pg_iload (pc := 68) (i := 4) (j := 5) (x := v4) dX7_readRow_68 rfl ?_
      refine pg_iload (pc := 70) (i := 6) (j := 0) (x := x1) dX7_readRow_70 rfl ?_
      refine pg_iast (pc := 72) h1 (b0 x1 M1 w1 c0 c1) dX7_readRow_72 ?_
      refine pg_iinc (pc := 73) (i := 4) (j := 5) (x := v4) (v := v4 + 1) (ls' := [(4, .int (v4 + 1)), (6, .int x1), (0, .ref 1), (1, .ref v1), (2, .int v2), (3, .int v3), (5, .int v5)]) dX7_readRow_73 rfl rfl (by decide) rfl ?_
      refine pg_aload_n (pc := 76) (i := 0) (j := 2) (x := 1) dX7_readRow_76 rfl rfl ?_
      refine pg_callV (pc := 77) (As := []) (st := []) okX7_next lkX7_52 rfl h0.1 rfl (Nat.le_refl _) (Nat.le_of_ble_eq_true rfl) (e2 x1 M1 w1 c0 c1) dX7_readRow_77 (fun r3 M3 w3 => ?_)
      obtain ⟨rfl, w3⟩ := w3
      refine pg_iinc (pc := 80) (i := 5) (j := 6) (x := v5) (v := v5 + 1) (ls' := [(5, .int (v5 + 1)), (4, .int (v4 + 1)), (6, .int x1), (0, .ref 1), (1, .ref v1), (2, .int v2), (3, .int v3)]) dX7_readRow_80 rfl rfl (by decide) rfl ?_
      refine pg_goto (pc := 83) (tgt := 6) dX7_readRow_83 (by decide) ?_
      refine pg_drop (ks := [3, 4, 5, 6, 1, 0]) (ls' := [(0, .ref 1), (1, .ref v1), (2, .int v2), (3, .int v3), (4, .int (v4 + 1)), (5, .int (v5 + 1))]) rfl ?_
      exact k1 x1 M1 w1 c0 c1 M3 w3
  · skip
    refine pg_iload (pc := 48) (i := 4) (j := 5) (x := v4) dX7_readRow_48 rfl ?_
    refine pg_aload_n (pc := 50) (i := 1) (j := 2) (x := v1) dX7_readRow_50 rfl rfl ?_
    refine pg_alen (pc := 51) h1 0 rfl dX7_readRow_51 ?_
    refine pg_icmp_lt (pc := 52) (tgt := 60) dX7_readRow_52 (by decide) (fun c1 => ?_) (fun c1 => ?_)
    · skip
      refine pg_aload_n (pc := 60) (i := 0) (j := 1) (x := 1) dX7_readRow_60 rfl rfl ?_
      refine gfX7_32 (pc := 61) rfl h0 dX7_readRow_61 ?_
      refine pg_if_ne (pc := 64) (tgt := 76) dX7_readRow_64 (by decide) (fun c2 => ?_) (fun c2 => ?_)
      · skip
        refine pg_aload_n (pc := 76) (i := 0) (j := 1) (x := 1) dX7_readRow_76 rfl rfl ?_
        refine pg_callV (pc := 77) (As := []) (st := []) okX7_next lkX7_52 rfl h0.1 rfl (Nat.le_refl _) (Nat.le_of_ble_eq_true rfl) (e3 x1 M1 w1 c0 c1 c2) dX7_readRow_77 (fun r4 M4 w4 => ?_)
        obtain ⟨rfl, w4⟩ := w4
        refine pg_iinc (pc := 80) (i := 5) (j := 6) (x := v5) (v := v5 + 1) (ls' := [(5, .int (v5 + 1)), (6, .int x1), (0, .ref 1), (1, .ref v1), (2, .int v2), (3, .int v3), (4, .int v4)]) dX7_readRow_80 rfl rfl (by decide) rfl ?_
        refine pg_goto (pc := 83) (tgt := 6) dX7_readRow_83 (by decide) ?_
        refine pg_drop (ks := [2, 3, 4, 5, 6, 0]) (ls' := [(0, .ref 1), (1, .ref v1), (2, .int v2), (3, .int v3), (4, .int v4), (5, .int (v5 + 1))]) rfl ?_
        exact k2 x1 M1 w1 c0 c1 c2 M4 w4
      · skip
        refine pg_aload_n (pc := 67) (i := 1) (j := 2) (x := v1) dX7_readRow_67 rfl rfl ?_
        refine pg_iload (pc := 68) (i := 4) (j := 5) (x := v4) dX7_readRow_68 rfl ?_
        refine pg_iload (pc := 70) (i := 6) (j := 0) (x := x1) dX7_readRow_70 rfl ?_
        refine pg_iast (pc := 72) h1 (b1 x1 M1 w1 c0 c1 c2) dX7_readRow_72 ?_
        refine pg_iinc (pc := 73) (i := 4) (j := 5) (x := v4) (v := v4 + 1) (ls' := [(4, .int (v4 + 1)), (6, .int x1), (0, .ref 1), (1, .ref v1), (2, .int v2), (3, .int v3), (5, .int v5)]) dX7_readRow_73 rfl rfl (by decide) rfl ?_
        refine pg_aload_n (pc := 76) (i := 0) (j := 2) (x := 1) dX7_readRow_76 rfl rfl ?_
        refine pg_callV (pc := 77) (As := []) (st := []) okX7_next lkX7_52 rfl h0.1 rfl (Nat.le_refl _) (Nat.le_of_ble_eq_true rfl) (e4 x1 M1 w1 c0 c1 c2) dX7_readRow_77 (fun r5 M5 w5 => ?_)
        obtain ⟨rfl, w5⟩ := w5
        refine pg_iinc (pc := 80) (i := 5) (j := 6) (x := v5) (v := v5 + 1) (ls' := [(5, .int (v5 + 1)), (4, .int (v4 + 1)), (6, .int x1), (0, .ref 1), (1, .ref v1), (2, .int v2), (3, .int v3)]) dX7_readRow_80 rfl rfl (by decide) rfl ?_
        refine pg_goto (pc := 83) (tgt := 6) dX7_readRow_83 (by decide) ?_
        refine pg_drop (ks := [3, 4, 5, 6, 1, 0]) (ls' := [(0, .ref 1), (1, .ref v1), (2, .int v2), (3, .int v3), (4, .int (v4 + 1)), (5, .int (v5 + 1))]) rfl ?_
        exact k3 x1 M1 w1 c0 c1 c2 M5 w5
    · skip
      refine pg_aload_n (pc := 55) (i := 0) (j := 1) (x := 1) dX7_readRow_55 rfl rfl ?_
      refine pg_iconst (pc := 56) (v := 5) dX7_readRow_56 (by decide) ?_
      refine pg_callV (pc := 57) (As := [.int 5]) (st := []) okX7_fail lkX7_68 rfl h0.1 rfl (Nat.le_refl _) (Nat.le_of_ble_eq_true rfl) (e5 x1 M1 w1 c0 c1) dX7_readRow_57 (fun r6 M6 w6 => ?_)
      obtain ⟨rfl, w6⟩ := w6
      refine pg_aload_n (pc := 60) (i := 0) (j := 1) (x := 1) dX7_readRow_60 rfl rfl ?_
      refine gfX7_32 (pc := 61) rfl h0 dX7_readRow_61 ?_
      refine pg_if_ne (pc := 64) (tgt := 76) dX7_readRow_64 (by decide) (fun c2 => ?_) (fun c2 => ?_)
      · skip
        refine pg_aload_n (pc := 76) (i := 0) (j := 1) (x := 1) dX7_readRow_76 rfl rfl ?_
        refine pg_callV (pc := 77) (As := []) (st := []) okX7_next lkX7_52 rfl h0.1 rfl (Nat.le_refl _) (Nat.le_of_ble_eq_true rfl) (e6 x1 M1 w1 c0 c1 M6 w6 c2) dX7_readRow_77 (fun r7 M7 w7 => ?_)
        obtain ⟨rfl, w7⟩ := w7
        refine pg_iinc (pc := 80) (i := 5) (j := 6) (x := v5) (v := v5 + 1) (ls' := [(5, .int (v5 + 1)), (6, .int x1), (0, .ref 1), (1, .ref v1), (2, .int v2), (3, .int v3), (4, .int v4)]) dX7_readRow_80 rfl rfl (by decide) rfl ?_
        refine pg_goto (pc := 83) (tgt := 6) dX7_readRow_83 (by decide) ?_
        refine pg_drop (ks := [2, 3, 4, 5, 6, 0]) (ls' := [(0, .ref 1), (1, .ref v1), (2, .int v2), (3, .int v3), (4, .int v4), (5, .int (v5 + 1))]) rfl ?_
        exact k4 x1 M1 w1 c0 c1 M6 w6 c2 M7 w7
      · skip
        refine pg_aload_n (pc := 67) (i := 1) (j := 2) (x := v1) dX7_readRow_67 rfl rfl ?_
        refine pg_iload (pc := 68) (i := 4) (j := 5) (x := v4) dX7_readRow_68 rfl ?_
        refine pg_iload (pc := 70) (i := 6) (j := 0) (x := x1) dX7_readRow_70 rfl ?_
        refine pg_iast (pc := 72) h1 (b2 x1 M1 w1 c0 c1 M6 w6 c2) dX7_readRow_72 ?_
        refine pg_iinc (pc := 73) (i := 4) (j := 5) (x := v4) (v := v4 + 1) (ls' := [(4, .int (v4 + 1)), (6, .int x1), (0, .ref 1), (1, .ref v1), (2, .int v2), (3, .int v3), (5, .int v5)]) dX7_readRow_73 rfl rfl (by decide) rfl ?_
        refine pg_aload_n (pc := 76) (i := 0) (j := 2) (x := 1) dX7_readRow_76 rfl rfl ?_
        refine pg_callV (pc := 77) (As := []) (st := []) okX7_next lkX7_52 rfl h0.1 rfl (Nat.le_refl _) (Nat.le_of_ble_eq_true rfl) (e7 x1 M1 w1 c0 c1 M6 w6 c2) dX7_readRow_77 (fun r8 M8 w8 => ?_)
        obtain ⟨rfl, w8⟩ := w8
        refine pg_iinc (pc := 80) (i := 5) (j := 6) (x := v5) (v := v5 + 1) (ls' := [(5, .int (v5 + 1)), (4, .int (v4 + 1)), (6, .int x1), (0, .ref 1), (1, .ref v1), (2, .int v2), (3, .int v3)]) dX7_readRow_80 rfl rfl (by decide) rfl ?_
        refine pg_goto (pc := 83) (tgt := 6) dX7_readRow_83 (by decide) ?_
        refine pg_drop (ks := [3, 4, 5, 6, 1, 0]) (ls' := [(0, .ref 1), (1, .ref v1), (2, .int v2), (3, .int v3), (4, .int (v4 + 1)), (5, .int (v5 + 1))]) rfl ?_
        exact k5 x1 M1 w1 c0 c1 M6 w6 c2 M8 w8
theorem oX7_readRow {d : Nat} {v1 : Nat} {v2 : Int32} {v3 : Int32} (h : pg_At S Λ YX7_readRow d 0 [(0, .ref 1), (1, .ref v1), (2, .int v2), (3, .int v3)] [] M P) : pg_Ev S Λ YX7_readRow d [.ref 1, .ref v1, .int v2, .int v3] M P := pg_Ev.of (by decide) (by first | decide | exact Nat.le_of_ble_eq_true rfl) h
theorem sX7_readDone_0 {v1 : Nat} {v2 : Nat} 
    (h0 : pg_isX7 Λ)
    (k0 : (¬ (M.1 1 4) = 2) → pg_At S Λ YX7_readDone (d + 1) 16 [(0, .ref 1), (1, .ref v1), (2, .ref v2)] [.int (-1)] M P)
    (k1 : ((M.1 1 4) = 2) → pg_At S Λ YX7_readDone (d + 1) 16 [(0, .ref 1), (1, .ref v1), (2, .ref v2)] [.int (M.1 1 7)] M P) :
    pg_At S Λ YX7_readDone (d + 1) 0 [(0, .ref 1), (1, .ref v1), (2, .ref v2)] [] M P := by
  refine pg_aload_n (pc := 0) (i := 0) (j := 0) (x := 1) dX7_readDone_0 rfl rfl ?_
  refine gfX7_35 (pc := 1) rfl h0 dX7_readDone_1 ?_
  refine pg_iconst (pc := 4) (v := 2) dX7_readDone_4 (by decide) ?_
  refine pg_icmp_ne (pc := 5) (tgt := 15) dX7_readDone_5 (by decide) (fun c0 => ?_) (fun c0 => ?_)
  · skip
    refine pg_iconst (pc := 15) (v := (-1)) dX7_readDone_15 (by decide) ?_
    exact k0 c0
  · skip
    refine pg_aload_n (pc := 8) (i := 0) (j := 0) (x := 1) dX7_readDone_8 rfl rfl ?_
    refine gfX7_55 (pc := 9) rfl h0 dX7_readDone_9 ?_
    refine pg_goto (pc := 12) (tgt := 16) dX7_readDone_12 (by decide) ?_
    exact k1 c0
theorem sX7_readDone_16 {v1 : Nat} {v2 : Nat} {s0 : Int32} {Q0 : pg_M → Prop} {Q1 : pg_M → Prop} {Q2 : pg_M → Prop} {Q3 : pg_M → Prop} {Q4 : Int32 → pg_M → Prop} {Q5 : pg_M → Prop} {Q6 : pg_M → Prop} {Q7 : Int32 → pg_M → Prop} {Q8 : pg_M → Prop} {Q9 : pg_M → Prop} {Q10 : Int32 → pg_M → Prop} {Q11 : pg_M → Prop} {Q12 : pg_M → Prop} {Q13 : Int32 → pg_M → Prop} {Q14 : pg_M → Prop} {Q15 : pg_M → Prop} {Q16 : Int32 → pg_M → Prop} {Q17 : pg_M → Prop} {Q18 : pg_M → Prop} {Q19 : pg_M → Prop} {Q20 : pg_M → Prop}
    (h0 : pg_isX7 Λ)
    (h1 : pg_isX1 Λ v2)
    (e0 : (s0 < 11) → pg_Ev S Λ YX7_fail d [.ref 1, .int 1] M (fun r M' => r = none ∧ Q0 M'))
    (k0 : (s0 < 11) → ∀ M1, Q0 M1 → P none M1)
    (e1 : (¬ s0 < 11) → (s0 ≤ 15) → ((M.1 v2 3) < 30) → pg_Ev S Λ YX7_next d [.ref 1] M (fun r M' => r = none ∧ Q1 M'))
    (e2 : (¬ s0 < 11) → (s0 ≤ 15) → ((M.1 v2 3) < 30) → ∀ M2, Q1 M2 → (13 < s0) → (¬ s0 = 11) → (¬ s0 = 14) → pg_Ev S Λ YX7_expectSign d [.ref 1, .int 59] M2 (fun r M' => r = none ∧ Q2 M'))
    (e3 : (¬ s0 < 11) → (s0 ≤ 15) → ((M.1 v2 3) < 30) → ∀ M2, Q1 M2 → (13 < s0) → (¬ s0 = 11) → (¬ s0 = 14) → ∀ M3, Q2 M3 → pg_Ev S Λ YX1_add d [.ref v2, .int s0, .int (-1), .int 0] M3 (fun r M' => r = none ∧ Q3 M'))
    (k1 : (¬ s0 < 11) → (s0 ≤ 15) → ((M.1 v2 3) < 30) → ∀ M2, Q1 M2 → (13 < s0) → (¬ s0 = 11) → (¬ s0 = 14) → ∀ M3, Q2 M3 → ∀ M4, Q3 M4 → P none M4)
    (e4 : (¬ s0 < 11) → (s0 ≤ 15) → ((M.1 v2 3) < 30) → ∀ M2, Q1 M2 → (13 < s0) → (¬ s0 = 11) → (s0 = 14) → pg_Ev S Λ YX7_readNumber d [.ref 1, .int 1, .int 9] M2 (fun r M' => ∃ x, r = some (.int x) ∧ Q4 x M'))
    (e5 : (¬ s0 < 11) → (s0 ≤ 15) → ((M.1 v2 3) < 30) → ∀ M2, Q1 M2 → (13 < s0) → (¬ s0 = 11) → (s0 = 14) → ∀ x5 M5, Q4 x5 M5 → pg_Ev S Λ YX7_expectSign d [.ref 1, .int 59] M5 (fun r M' => r = none ∧ Q5 M'))
    (e6 : (¬ s0 < 11) → (s0 ≤ 15) → ((M.1 v2 3) < 30) → ∀ M2, Q1 M2 → (13 < s0) → (¬ s0 = 11) → (s0 = 14) → ∀ x5 M5, Q4 x5 M5 → ∀ M6, Q5 M6 → pg_Ev S Λ YX1_add d [.ref v2, .int s0, .int (-1), .int x5] M6 (fun r M' => r = none ∧ Q6 M'))
    (k2 : (¬ s0 < 11) → (s0 ≤ 15) → ((M.1 v2 3) < 30) → ∀ M2, Q1 M2 → (13 < s0) → (¬ s0 = 11) → (s0 = 14) → ∀ x5 M5, Q4 x5 M5 → ∀ M6, Q5 M6 → ∀ M7, Q6 M7 → P none M7)
    (e7 : (¬ s0 < 11) → (s0 ≤ 15) → ((M.1 v2 3) < 30) → ∀ M2, Q1 M2 → (13 < s0) → (s0 = 11) → pg_Ev S Λ YX7_readPegs d [.ref 1] M2 (fun r M' => ∃ x, r = some (.int x) ∧ Q7 x M'))
    (e8 : (¬ s0 < 11) → (s0 ≤ 15) → ((M.1 v2 3) < 30) → ∀ M2, Q1 M2 → (13 < s0) → (s0 = 11) → ∀ x8 M8, Q7 x8 M8 → pg_Ev S Λ YX7_expectSign d [.ref 1, .int 59] M8 (fun r M' => r = none ∧ Q8 M'))
    (e9 : (¬ s0 < 11) → (s0 ≤ 15) → ((M.1 v2 3) < 30) → ∀ M2, Q1 M2 → (13 < s0) → (s0 = 11) → ∀ x8 M8, Q7 x8 M8 → ∀ M9, Q8 M9 → pg_Ev S Λ YX1_add d [.ref v2, .int s0, .int (-1), .int x8] M9 (fun r M' => r = none ∧ Q9 M'))
    (k3 : (¬ s0 < 11) → (s0 ≤ 15) → ((M.1 v2 3) < 30) → ∀ M2, Q1 M2 → (13 < s0) → (s0 = 11) → ∀ x8 M8, Q7 x8 M8 → ∀ M9, Q8 M9 → ∀ M10, Q9 M10 → P none M10)
    (e10 : (¬ s0 < 11) → (s0 ≤ 15) → ((M.1 v2 3) < 30) → ∀ M2, Q1 M2 → (¬ 13 < s0) → pg_Ev S Λ YX7_readNamed d [.ref 1, .ref v1] M2 (fun r M' => ∃ x, r = some (.int x) ∧ Q10 x M'))
    (e11 : (¬ s0 < 11) → (s0 ≤ 15) → ((M.1 v2 3) < 30) → ∀ M2, Q1 M2 → (¬ 13 < s0) → ∀ x11 M11, Q10 x11 M11 → (¬ s0 = 11) → (¬ s0 = 14) → pg_Ev S Λ YX7_expectSign d [.ref 1, .int 59] M11 (fun r M' => r = none ∧ Q11 M'))
    (e12 : (¬ s0 < 11) → (s0 ≤ 15) → ((M.1 v2 3) < 30) → ∀ M2, Q1 M2 → (¬ 13 < s0) → ∀ x11 M11, Q10 x11 M11 → (¬ s0 = 11) → (¬ s0 = 14) → ∀ M12, Q11 M12 → pg_Ev S Λ YX1_add d [.ref v2, .int s0, .int x11, .int 0] M12 (fun r M' => r = none ∧ Q12 M'))
    (k4 : (¬ s0 < 11) → (s0 ≤ 15) → ((M.1 v2 3) < 30) → ∀ M2, Q1 M2 → (¬ 13 < s0) → ∀ x11 M11, Q10 x11 M11 → (¬ s0 = 11) → (¬ s0 = 14) → ∀ M12, Q11 M12 → ∀ M13, Q12 M13 → P none M13)
    (e13 : (¬ s0 < 11) → (s0 ≤ 15) → ((M.1 v2 3) < 30) → ∀ M2, Q1 M2 → (¬ 13 < s0) → ∀ x11 M11, Q10 x11 M11 → (¬ s0 = 11) → (s0 = 14) → pg_Ev S Λ YX7_readNumber d [.ref 1, .int 1, .int 9] M11 (fun r M' => ∃ x, r = some (.int x) ∧ Q13 x M'))
    (e14 : (¬ s0 < 11) → (s0 ≤ 15) → ((M.1 v2 3) < 30) → ∀ M2, Q1 M2 → (¬ 13 < s0) → ∀ x11 M11, Q10 x11 M11 → (¬ s0 = 11) → (s0 = 14) → ∀ x14 M14, Q13 x14 M14 → pg_Ev S Λ YX7_expectSign d [.ref 1, .int 59] M14 (fun r M' => r = none ∧ Q14 M'))
    (e15 : (¬ s0 < 11) → (s0 ≤ 15) → ((M.1 v2 3) < 30) → ∀ M2, Q1 M2 → (¬ 13 < s0) → ∀ x11 M11, Q10 x11 M11 → (¬ s0 = 11) → (s0 = 14) → ∀ x14 M14, Q13 x14 M14 → ∀ M15, Q14 M15 → pg_Ev S Λ YX1_add d [.ref v2, .int s0, .int x11, .int x14] M15 (fun r M' => r = none ∧ Q15 M'))
    (k5 : (¬ s0 < 11) → (s0 ≤ 15) → ((M.1 v2 3) < 30) → ∀ M2, Q1 M2 → (¬ 13 < s0) → ∀ x11 M11, Q10 x11 M11 → (¬ s0 = 11) → (s0 = 14) → ∀ x14 M14, Q13 x14 M14 → ∀ M15, Q14 M15 → ∀ M16, Q15 M16 → P none M16)
    (e16 : (¬ s0 < 11) → (s0 ≤ 15) → ((M.1 v2 3) < 30) → ∀ M2, Q1 M2 → (¬ 13 < s0) → ∀ x11 M11, Q10 x11 M11 → (s0 = 11) → pg_Ev S Λ YX7_readPegs d [.ref 1] M11 (fun r M' => ∃ x, r = some (.int x) ∧ Q16 x M'))
    (e17 : (¬ s0 < 11) → (s0 ≤ 15) → ((M.1 v2 3) < 30) → ∀ M2, Q1 M2 → (¬ 13 < s0) → ∀ x11 M11, Q10 x11 M11 → (s0 = 11) → ∀ x17 M17, Q16 x17 M17 → pg_Ev S Λ YX7_expectSign d [.ref 1, .int 59] M17 (fun r M' => r = none ∧ Q17 M'))
    (e18 : (¬ s0 < 11) → (s0 ≤ 15) → ((M.1 v2 3) < 30) → ∀ M2, Q1 M2 → (¬ 13 < s0) → ∀ x11 M11, Q10 x11 M11 → (s0 = 11) → ∀ x17 M17, Q16 x17 M17 → ∀ M18, Q17 M18 → pg_Ev S Λ YX1_add d [.ref v2, .int s0, .int x11, .int x17] M18 (fun r M' => r = none ∧ Q18 M'))
    (k6 : (¬ s0 < 11) → (s0 ≤ 15) → ((M.1 v2 3) < 30) → ∀ M2, Q1 M2 → (¬ 13 < s0) → ∀ x11 M11, Q10 x11 M11 → (s0 = 11) → ∀ x17 M17, Q16 x17 M17 → ∀ M18, Q17 M18 → ∀ M19, Q18 M19 → P none M19)
    (e19 : (¬ s0 < 11) → (s0 ≤ 15) → (¬ (M.1 v2 3) < 30) → pg_Ev S Λ YX7_fail d [.ref 1, .int 5] M (fun r M' => r = none ∧ Q19 M'))
    (k7 : (¬ s0 < 11) → (s0 ≤ 15) → (¬ (M.1 v2 3) < 30) → ∀ M20, Q19 M20 → P none M20)
    (e20 : (¬ s0 < 11) → (¬ s0 ≤ 15) → pg_Ev S Λ YX7_fail d [.ref 1, .int 1] M (fun r M' => r = none ∧ Q20 M'))
    (k8 : (¬ s0 < 11) → (¬ s0 ≤ 15) → ∀ M21, Q20 M21 → P none M21) :
    pg_At S Λ YX7_readDone (d + 1) 16 [(0, .ref 1), (1, .ref v1), (2, .ref v2)] [.int s0] M P := by
  refine pg_istore_n (pc := 16) (i := 3) (ls' := [(3, .int s0), (0, .ref 1), (1, .ref v1), (2, .ref v2)]) dX7_readDone_16 rfl (by decide) rfl ?_
  refine pg_iload_n (pc := 17) (i := 3) (j := 0) (x := s0) dX7_readDone_17 rfl rfl ?_
  refine pg_bipush (pc := 18) (v := 11) dX7_readDone_18 (by decide) ?_
  refine pg_icmp_lt (pc := 20) (tgt := 29) dX7_readDone_20 (by decide) (fun c0 => ?_) (fun c0 => ?_)
  · skip
    refine pg_aload_n (pc := 29) (i := 0) (j := 1) (x := 1) dX7_readDone_29 rfl rfl ?_
    refine pg_iconst (pc := 30) (v := 1) dX7_readDone_30 (by decide) ?_
    refine pg_callV (pc := 31) (As := [.int 1]) (st := []) okX7_fail lkX7_68 rfl h0.1 rfl (Nat.le_refl _) (Nat.le_of_ble_eq_true rfl) (e0 c0) dX7_readDone_31 (fun r1 M1 w1 => ?_)
    obtain ⟨rfl, w1⟩ := w1
    exact pg_vret (pc := 34) rfl dX7_readDone_34 (k0 c0 M1 w1)
  · skip
    refine pg_iload_n (pc := 23) (i := 3) (j := 0) (x := s0) dX7_readDone_23 rfl rfl ?_
    refine pg_bipush (pc := 24) (v := 15) dX7_readDone_24 (by decide) ?_
    refine pg_icmp_le (pc := 26) (tgt := 35) dX7_readDone_26 (by decide) (fun c1 => ?_) (fun c1 => ?_)
    · skip
      refine pg_aload_n (pc := 35) (i := 2) (j := 3) (x := v2) dX7_readDone_35 rfl rfl ?_
      refine gfX7_169 (pc := 36) rfl h1 dX7_readDone_36 ?_
      refine pg_bipush (pc := 39) (v := 30) dX7_readDone_39 (by decide) ?_
      refine pg_icmp_lt (pc := 41) (tgt := 50) dX7_readDone_41 (by decide) (fun c2 => ?_) (fun c2 => ?_)
      · skip
        refine pg_aload_n (pc := 50) (i := 0) (j := 1) (x := 1) dX7_readDone_50 rfl rfl ?_
        refine pg_callV (pc := 51) (As := []) (st := []) okX7_next lkX7_52 rfl h0.1 rfl (Nat.le_refl _) (Nat.le_of_ble_eq_true rfl) (e1 c0 c1 c2) dX7_readDone_51 (fun r2 M2 w2 => ?_)
        obtain ⟨rfl, w2⟩ := w2
        refine pg_iload_n (pc := 54) (i := 3) (j := 0) (x := s0) dX7_readDone_54 rfl rfl ?_
        refine pg_bipush (pc := 55) (v := 13) dX7_readDone_55 (by decide) ?_
        refine pg_icmp_gt (pc := 57) (tgt := 68) dX7_readDone_57 (by decide) (fun c3 => ?_) (fun c3 => ?_)
        · skip
          refine pg_iconst (pc := 68) (v := (-1)) dX7_readDone_68 (by decide) ?_
          refine pg_istore (pc := 69) (i := 4) (ls' := [(4, .int (-1)), (3, .int s0), (0, .ref 1), (1, .ref v1), (2, .ref v2)]) dX7_readDone_69 (by decide) rfl ?_
          refine pg_iconst (pc := 71) (v := 0) dX7_readDone_71 (by decide) ?_
          refine pg_istore (pc := 72) (i := 5) (ls' := [(5, .int 0), (4, .int (-1)), (3, .int s0), (0, .ref 1), (1, .ref v1), (2, .ref v2)]) dX7_readDone_72 (by decide) rfl ?_
          refine pg_iload_n (pc := 74) (i := 3) (j := 2) (x := s0) dX7_readDone_74 rfl rfl ?_
          refine pg_bipush (pc := 75) (v := 11) dX7_readDone_75 (by decide) ?_
          refine pg_icmp_ne (pc := 77) (tgt := 89) dX7_readDone_77 (by decide) (fun c4 => ?_) (fun c4 => ?_)
          · skip
            refine pg_iload_n (pc := 89) (i := 3) (j := 2) (x := s0) dX7_readDone_89 rfl rfl ?_
            refine pg_bipush (pc := 90) (v := 14) dX7_readDone_90 (by decide) ?_
            refine pg_icmp_ne (pc := 92) (tgt := 104) dX7_readDone_92 (by decide) (fun c5 => ?_) (fun c5 => ?_)
            · skip
              refine pg_aload_n (pc := 104) (i := 0) (j := 3) (x := 1) dX7_readDone_104 rfl rfl ?_
              refine pg_bipush (pc := 105) (v := 59) dX7_readDone_105 (by decide) ?_
              refine pg_callV (pc := 107) (As := [.int 59]) (st := []) okX7_expectSign lkX7_72 rfl h0.1 rfl (Nat.le_refl _) (Nat.le_of_ble_eq_true rfl) (e2 c0 c1 c2 M2 w2 c3 c4 c5) dX7_readDone_107 (fun r3 M3 w3 => ?_)
              obtain ⟨rfl, w3⟩ := w3
              refine pg_aload_n (pc := 110) (i := 2) (j := 5) (x := v2) dX7_readDone_110 rfl rfl ?_
              refine pg_iload_n (pc := 111) (i := 3) (j := 2) (x := s0) dX7_readDone_111 rfl rfl ?_
              refine pg_iload (pc := 112) (i := 4) (j := 1) (x := (-1)) dX7_readDone_112 rfl ?_
              refine pg_iload (pc := 114) (i := 5) (j := 0) (x := 0) dX7_readDone_114 rfl ?_
              refine pg_callV (pc := 116) (As := [.int s0, .int (-1), .int 0]) (st := []) okX1_add lkX7_176 rfl h1.1 rfl (Nat.le_refl _) (Nat.le_of_ble_eq_true rfl) (e3 c0 c1 c2 M2 w2 c3 c4 c5 M3 w3) dX7_readDone_116 (fun r4 M4 w4 => ?_)
              obtain ⟨rfl, w4⟩ := w4
              exact pg_vret (pc := 119) rfl dX7_readDone_119 (k1 c0 c1 c2 M2 w2 c3 c4 c5 M3 w3 M4 w4)
            · skip
              refine pg_aload_n (pc := 95) (i := 0) (j := 3) (x := 1) dX7_readDone_95 rfl rfl ?_
              refine pg_iconst (pc := 96) (v := 1) dX7_readDone_96 (by decide) ?_
              refine pg_bipush (pc := 97) (v := 9) dX7_readDone_97 (by decide) ?_
              refine pg_callV (pc := 99) (As := [.int 1, .int 9]) (st := []) okX7_readNumber lkX7_111 rfl h0.1 rfl (Nat.le_refl _) (Nat.le_of_ble_eq_true rfl) (e4 c0 c1 c2 M2 w2 c3 c4 c5) dX7_readDone_99 (fun r5 M5 w5 => ?_)
              obtain ⟨x5, rfl, w5⟩ := w5
              refine pg_istore (pc := 102) (i := 5) (ls' := [(5, .int x5), (4, .int (-1)), (3, .int s0), (0, .ref 1), (1, .ref v1), (2, .ref v2)]) dX7_readDone_102 (by decide) rfl ?_
              refine pg_aload_n (pc := 104) (i := 0) (j := 3) (x := 1) dX7_readDone_104 rfl rfl ?_
              refine pg_bipush (pc := 105) (v := 59) dX7_readDone_105 (by decide) ?_
              refine pg_callV (pc := 107) (As := [.int 59]) (st := []) okX7_expectSign lkX7_72 rfl h0.1 rfl (Nat.le_refl _) (Nat.le_of_ble_eq_true rfl) (e5 c0 c1 c2 M2 w2 c3 c4 c5 x5 M5 w5) dX7_readDone_107 (fun r6 M6 w6 => ?_)
              obtain ⟨rfl, w6⟩ := w6
              refine pg_aload_n (pc := 110) (i := 2) (j := 5) (x := v2) dX7_readDone_110 rfl rfl ?_
              refine pg_iload_n (pc := 111) (i := 3) (j := 2) (x := s0) dX7_readDone_111 rfl rfl ?_
              refine pg_iload (pc := 112) (i := 4) (j := 1) (x := (-1)) dX7_readDone_112 rfl ?_
              refine pg_iload (pc := 114) (i := 5) (j := 0) (x := x5) dX7_readDone_114 rfl ?_
              refine pg_callV (pc := 116) (As := [.int s0, .int (-1), .int x5]) (st := []) okX1_add lkX7_176 rfl h1.1 rfl (Nat.le_refl _) (Nat.le_of_ble_eq_true rfl) (e6 c0 c1 c2 M2 w2 c3 c4 c5 x5 M5 w5 M6 w6) dX7_readDone_116 (fun r7 M7 w7 => ?_)
              obtain ⟨rfl, w7⟩ := w7
              exact pg_vret (pc := 119) rfl dX7_readDone_119 (k2 c0 c1 c2 M2 w2 c3 c4 c5 x5 M5 w5 M6 w6 M7 w7)
          · skip
            refine pg_aload_n (pc := 80) (i := 0) (j := 3) (x := 1) dX7_readDone_80 rfl rfl ?_
            refine pg_callV (pc := 81) (As := []) (st := []) okX7_readPegs lkX7_172 rfl h0.1 rfl (Nat.le_refl _) (Nat.le_of_ble_eq_true rfl) (e7 c0 c1 c2 M2 w2 c3 c4) dX7_readDone_81 (fun r8 M8 w8 => ?_)
            obtain ⟨x8, rfl, w8⟩ := w8
            refine pg_istore (pc := 84) (i := 5) (ls' := [(5, .int x8), (4, .int (-1)), (3, .int s0), (0, .ref 1), (1, .ref v1), (2, .ref v2)]) dX7_readDone_84 (by decide) rfl ?_
            refine pg_goto (pc := 86) (tgt := 104) dX7_readDone_86 (by decide) ?_
            refine pg_aload_n (pc := 104) (i := 0) (j := 3) (x := 1) dX7_readDone_104 rfl rfl ?_
            refine pg_bipush (pc := 105) (v := 59) dX7_readDone_105 (by decide) ?_
            refine pg_callV (pc := 107) (As := [.int 59]) (st := []) okX7_expectSign lkX7_72 rfl h0.1 rfl (Nat.le_refl _) (Nat.le_of_ble_eq_true rfl) (e8 c0 c1 c2 M2 w2 c3 c4 x8 M8 w8) dX7_readDone_107 (fun r9 M9 w9 => ?_)
            obtain ⟨rfl, w9⟩ := w9
            refine pg_aload_n (pc := 110) (i := 2) (j := 5) (x := v2) dX7_readDone_110 rfl rfl ?_
            refine pg_iload_n (pc := 111) (i := 3) (j := 2) (x := s0) dX7_readDone_111 rfl rfl ?_
            refine pg_iload (pc := 112) (i := 4) (j := 1) (x := (-1)) dX7_readDone_112 rfl ?_
            refine pg_iload (pc := 114) (i := 5) (j := 0) (x := x8) dX7_readDone_114 rfl ?_
            refine pg_callV (pc := 116) (As := [.int s0, .int (-1), .int x8]) (st := []) okX1_add lkX7_176 rfl h1.1 rfl (Nat.le_refl _) (Nat.le_of_ble_eq_true rfl) (e9 c0 c1 c2 M2 w2 c3 c4 x8 M8 w8 M9 w9) dX7_readDone_116 (fun r10 M10 w10 => ?_)
            obtain ⟨rfl, w10⟩ := w10
            exact pg_vret (pc := 119) rfl dX7_readDone_119 (k3 c0 c1 c2 M2 w2 c3 c4 x8 M8 w8 M9 w9 M10 w10)
        · skip
          refine pg_aload_n (pc := 60) (i := 0) (j := 1) (x := 1) dX7_readDone_60 rfl rfl ?_
          refine pg_aload_n (pc := 61) (i := 1) (j := 2) (x := v1) dX7_readDone_61 rfl rfl ?_
          refine pg_callV (pc := 62) (As := [.ref v1]) (st := []) okX7_readNamed lkX7_115 rfl h0.1 rfl (Nat.le_refl _) (Nat.le_of_ble_eq_true rfl) (e10 c0 c1 c2 M2 w2 c3) dX7_readDone_62 (fun r11 M11 w11 => ?_)
          obtain ⟨x11, rfl, w11⟩ := w11
          refine pg_goto (pc := 65) (tgt := 69) dX7_readDone_65 (by decide) ?_
          refine pg_istore (pc := 69) (i := 4) (ls' := [(4, .int x11), (3, .int s0), (0, .ref 1), (1, .ref v1), (2, .ref v2)]) dX7_readDone_69 (by decide) rfl ?_
          refine pg_iconst (pc := 71) (v := 0) dX7_readDone_71 (by decide) ?_
          refine pg_istore (pc := 72) (i := 5) (ls' := [(5, .int 0), (4, .int x11), (3, .int s0), (0, .ref 1), (1, .ref v1), (2, .ref v2)]) dX7_readDone_72 (by decide) rfl ?_
          refine pg_iload_n (pc := 74) (i := 3) (j := 2) (x := s0) dX7_readDone_74 rfl rfl ?_
          refine pg_bipush (pc := 75) (v := 11) dX7_readDone_75 (by decide) ?_
          refine pg_icmp_ne (pc := 77) (tgt := 89) dX7_readDone_77 (by decide) (fun c4 => ?_) (fun c4 => ?_)
          · skip
            refine pg_iload_n (pc := 89) (i := 3) (j := 2) (x := s0) dX7_readDone_89 rfl rfl ?_
            refine pg_bipush (pc := 90) (v := 14) dX7_readDone_90 (by decide) ?_
            refine pg_icmp_ne (pc := 92) (tgt := 104) dX7_readDone_92 (by decide) (fun c5 => ?_) (fun c5 => ?_)
            · skip
              refine pg_aload_n (pc := 104) (i := 0) (j := 3) (x := 1) dX7_readDone_104 rfl rfl ?_
              refine pg_bipush (pc := 105) (v := 59) dX7_readDone_105 (by decide) ?_
              refine pg_callV (pc := 107) (As := [.int 59]) (st := []) okX7_expectSign lkX7_72 rfl h0.1 rfl (Nat.le_refl _) (Nat.le_of_ble_eq_true rfl) (e11 c0 c1 c2 M2 w2 c3 x11 M11 w11 c4 c5) dX7_readDone_107 (fun r12 M12 w12 => ?_)
              obtain ⟨rfl, w12⟩ := w12
              refine pg_aload_n (pc := 110) (i := 2) (j := 5) (x := v2) dX7_readDone_110 rfl rfl ?_
              refine pg_iload_n (pc := 111) (i := 3) (j := 2) (x := s0) dX7_readDone_111 rfl rfl ?_
              refine pg_iload (pc := 112) (i := 4) (j := 1) (x := x11) dX7_readDone_112 rfl ?_
              refine pg_iload (pc := 114) (i := 5) (j := 0) (x := 0) dX7_readDone_114 rfl ?_
              refine pg_callV (pc := 116) (As := [.int s0, .int x11, .int 0]) (st := []) okX1_add lkX7_176 rfl h1.1 rfl (Nat.le_refl _) (Nat.le_of_ble_eq_true rfl) (e12 c0 c1 c2 M2 w2 c3 x11 M11 w11 c4 c5 M12 w12) dX7_readDone_116 (fun r13 M13 w13 => ?_)
              obtain ⟨rfl, w13⟩ := w13
              exact pg_vret (pc := 119) rfl dX7_readDone_119 (k4 c0 c1 c2 M2 w2 c3 x11 M11 w11 c4 c5 M12 w12 M13 w13)
            · skip
              refine pg_aload_n (pc := 95) (i := 0) (j := 3) (x := 1) dX7_readDone_95 rfl rfl ?_
              refine pg_iconst (pc := 96) (v := 1) dX7_readDone_96 (by decide) ?_
              refine pg_bipush (pc := 97) (v := 9) dX7_readDone_97 (by decide) ?_
              refine pg_callV (pc := 99) (As := [.int 1, .int 9]) (st := []) okX7_readNumber lkX7_111 rfl h0.1 rfl (Nat.le_refl _) (Nat.le_of_ble_eq_true rfl) (e13 c0 c1 c2 M2 w2 c3 x11 M11 w11 c4 c5) dX7_readDone_99 (fun r14 M14 w14 => ?_)
              obtain ⟨x14, rfl, w14⟩ := w14
              refine pg_istore (pc := 102) (i := 5) (ls' := [(5, .int x14), (4, .int x11), (3, .int s0), (0, .ref 1), (1, .ref v1), (2, .ref v2)]) dX7_readDone_102 (by decide) rfl ?_
              refine pg_aload_n (pc := 104) (i := 0) (j := 3) (x := 1) dX7_readDone_104 rfl rfl ?_
              refine pg_bipush (pc := 105) (v := 59) dX7_readDone_105 (by decide) ?_
              refine pg_callV (pc := 107) (As := [.int 59]) (st := []) okX7_expectSign lkX7_72 rfl h0.1 rfl (Nat.le_refl _) (Nat.le_of_ble_eq_true rfl) (e14 c0 c1 c2 M2 w2 c3 x11 M11 w11 c4 c5 x14 M14 w14) dX7_readDone_107 (fun r15 M15 w15 => ?_)
              obtain ⟨rfl, w15⟩ := w15
              refine pg_aload_n (pc := 110) (i := 2) (j := 5) (x := v2) dX7_readDone_110 rfl rfl ?_
              refine pg_iload_n (pc := 111) (i := 3) (j := 2) (x := s0) dX7_readDone_111 rfl rfl ?_
              refine pg_iload (pc := 112) (i := 4) (j := 1) (x := x11) dX7_readDone_112 rfl ?_
              refine pg_iload (pc := 114) (i := 5) (j := 0) (x := x14) dX7_readDone_114 rfl ?_
              refine pg_callV (pc := 116) (As := [.int s0, .int x11, .int x14]) (st := []) okX1_add lkX7_176 rfl h1.1 rfl (Nat.le_refl _) (Nat.le_of_ble_eq_true rfl) (e15 c0 c1 c2 M2 w2 c3 x11 M11 w11 c4 c5 x14 M14 w14 M15 w15) dX7_readDone_116 (fun r16 M16 w16 => ?_)
              obtain ⟨rfl, w16⟩ := w16
              exact pg_vret (pc := 119) rfl dX7_readDone_119 (k5 c0 c1 c2 M2 w2 c3 x11 M11 w11 c4 c5 x14 M14 w14 M15 w15 M16 w16)
          · skip
            refine pg_aload_n (pc := 80) (i := 0) (j := 3) (x := 1) dX7_readDone_80 rfl rfl ?_
            refine pg_callV (pc := 81) (As := []) (st := []) okX7_readPegs lkX7_172 rfl h0.1 rfl (Nat.le_refl _) (Nat.le_of_ble_eq_true rfl) (e16 c0 c1 c2 M2 w2 c3 x11 M11 w11 c4) dX7_readDone_81 (fun r17 M17 w17 => ?_)
            obtain ⟨x17, rfl, w17⟩ := w17
            refine pg_istore (pc := 84) (i := 5) (ls' := [(5, .int x17), (4, .int x11), (3, .int s0), (0, .ref 1), (1, .ref v1), (2, .ref v2)]) dX7_readDone_84 (by decide) rfl ?_
            refine pg_goto (pc := 86) (tgt := 104) dX7_readDone_86 (by decide) ?_
            refine pg_aload_n (pc := 104) (i := 0) (j := 3) (x := 1) dX7_readDone_104 rfl rfl ?_
            refine pg_bipush (pc := 105) (v := 59) dX7_readDone_105 (by decide) ?_
            refine pg_callV (pc := 107) (As := [.int 59]) (st := []) okX7_expectSign lkX7_72 rfl h0.1 rfl (Nat.le_refl _) (Nat.le_of_ble_eq_true rfl) (e17 c0 c1 c2 M2 w2 c3 x11 M11 w11 c4 x17 M17 w17) dX7_readDone_107 (fun r18 M18 w18 => ?_)
            obtain ⟨rfl, w18⟩ := w18
            refine pg_aload_n (pc := 110) (i := 2) (j := 5) (x := v2) dX7_readDone_110 rfl rfl ?_
            refine pg_iload_n (pc := 111) (i := 3) (j := 2) (x := s0) dX7_readDone_111 rfl rfl ?_
            refine pg_iload (pc := 112) (i := 4) (j := 1) (x := x11) dX7_readDone_112 rfl ?_
            refine pg_iload (pc := 114) (i := 5) (j := 0) (x := x17) dX7_readDone_114 rfl ?_
            refine pg_callV (pc := 116) (As := [.int s0, .int x11, .int x17]) (st := []) okX1_add lkX7_176 rfl h1.1 rfl (Nat.le_refl _) (Nat.le_of_ble_eq_true rfl) (e18 c0 c1 c2 M2 w2 c3 x11 M11 w11 c4 x17 M17 w17 M18 w18) dX7_readDone_116 (fun r19 M19 w19 => ?_)
            obtain ⟨rfl, w19⟩ := w19
            exact pg_vret (pc := 119) rfl dX7_readDone_119 (k6 c0 c1 c2 M2 w2 c3 x11 M11 w11 c4 x17 M17 w17 M18 w18 M19 w19)
      · skip
        refine pg_aload_n (pc := 44) (i := 0) (j := 1) (x := 1) dX7_readDone_44 rfl rfl ?_
        refine pg_iconst (pc := 45) (v := 5) dX7_readDone_45 (by decide) ?_
        refine pg_callV (pc := 46) (As := [.int 5]) (st := []) okX7_fail lkX7_68 rfl h0.1 rfl (Nat.le_refl _) (Nat.le_of_ble_eq_true rfl) (e19 c0 c1 c2) dX7_readDone_46 (fun r20 M20 w20 => ?_)
        obtain ⟨rfl, w20⟩ := w20
        exact pg_vret (pc := 49) rfl dX7_readDone_49 (k7 c0 c1 c2 M20 w20)
    · skip
      refine pg_aload_n (pc := 29) (i := 0) (j := 1) (x := 1) dX7_readDone_29 rfl rfl ?_
      refine pg_iconst (pc := 30) (v := 1) dX7_readDone_30 (by decide) ?_
      refine pg_callV (pc := 31) (As := [.int 1]) (st := []) okX7_fail lkX7_68 rfl h0.1 rfl (Nat.le_refl _) (Nat.le_of_ble_eq_true rfl) (e20 c0 c1) dX7_readDone_31 (fun r21 M21 w21 => ?_)
      obtain ⟨rfl, w21⟩ := w21
      exact pg_vret (pc := 34) rfl dX7_readDone_34 (k8 c0 c1 M21 w21)
theorem oX7_readDone {d : Nat} {v1 : Nat} {v2 : Nat} (h : pg_At S Λ YX7_readDone d 0 [(0, .ref 1), (1, .ref v1), (2, .ref v2)] [] M P) : pg_Ev S Λ YX7_readDone d [.ref 1, .ref v1, .ref v2] M P := pg_Ev.of (by decide) (by first | decide | exact Nat.le_of_ble_eq_true rfl) h
theorem sX7_readPegs_0  
    (k0 : pg_At S Λ YX7_readPegs (d + 1) 4 [(0, .ref 1), (1, .int 0), (2, .int 0)] [] M P) :
    pg_At S Λ YX7_readPegs (d + 1) 0 [(0, .ref 1)] [] M P := by
  refine pg_iconst (pc := 0) (v := 0) dX7_readPegs_0 (by decide) ?_
  refine pg_istore_n (pc := 1) (i := 1) (ls' := [(1, .int 0), (0, .ref 1)]) dX7_readPegs_1 rfl (by decide) rfl ?_
  refine pg_iconst (pc := 2) (v := 0) dX7_readPegs_2 (by decide) ?_
  refine pg_istore_n (pc := 3) (i := 2) (ls' := [(2, .int 0), (1, .int 0), (0, .ref 1)]) dX7_readPegs_3 rfl (by decide) rfl ?_
  refine pg_drop (ks := [2, 1, 0]) (ls' := [(0, .ref 1), (1, .int 0), (2, .int 0)]) rfl ?_
  exact k0
theorem sX7_readPegs_4 {v1 : Int32} {v2 : Int32} 
    (h0 : pg_isX7 Λ)
    (k0 : (4 < v2) → P (some (.int v1)) M)
    (k1 : (¬ 4 < v2) → (¬ (M.1 1 9) = 0) → P (some (.int v1)) M)
    (k2 : (¬ 4 < v2) → ((M.1 1 9) = 0) → (v2 = 0) → pg_At S Λ YX7_readPegs (d + 1) 28 [(0, .ref 1), (1, .int v1), (2, .int v2)] [] M P)
    (k3 : (¬ 4 < v2) → ((M.1 1 9) = 0) → (¬ v2 = 0) → (¬ (M.1 1 4) = 3) → P (some (.int v1)) M)
    (k4 : (¬ 4 < v2) → ((M.1 1 9) = 0) → (¬ v2 = 0) → ((M.1 1 4) = 3) → pg_At S Λ YX7_readPegs (d + 1) 28 [(0, .ref 1), (1, .int v1), (2, .int v2)] [] M P) :
    pg_At S Λ YX7_readPegs (d + 1) 4 [(0, .ref 1), (1, .int v1), (2, .int v2)] [] M P := by
  refine pg_iload_n (pc := 4) (i := 2) (j := 2) (x := v2) dX7_readPegs_4 rfl rfl ?_
  refine pg_iconst (pc := 5) (v := 4) dX7_readPegs_5 (by decide) ?_
  refine pg_icmp_gt (pc := 6) (tgt := 82) dX7_readPegs_6 (by decide) (fun c0 => ?_) (fun c0 => ?_)
  · skip
    refine pg_iload_n (pc := 82) (i := 1) (j := 1) (x := v1) dX7_readPegs_82 rfl rfl ?_
    exact pg_iret (pc := 83) rfl dX7_readPegs_83 (k0 c0)
  · skip
    refine pg_aload_n (pc := 9) (i := 0) (j := 0) (x := 1) dX7_readPegs_9 rfl rfl ?_
    refine gfX7_32 (pc := 10) rfl h0 dX7_readPegs_10 ?_
    refine pg_if_ne (pc := 13) (tgt := 82) dX7_readPegs_13 (by decide) (fun c1 => ?_) (fun c1 => ?_)
    · skip
      refine pg_iload_n (pc := 82) (i := 1) (j := 1) (x := v1) dX7_readPegs_82 rfl rfl ?_
      exact pg_iret (pc := 83) rfl dX7_readPegs_83 (k1 c0 c1)
    · skip
      refine pg_iload_n (pc := 16) (i := 2) (j := 2) (x := v2) dX7_readPegs_16 rfl rfl ?_
      refine pg_if_eq (pc := 17) (tgt := 28) dX7_readPegs_17 (by decide) (fun c2 => ?_) (fun c2 => ?_)
      · skip
        exact k2 c0 c1 c2
      · skip
        refine pg_aload_n (pc := 20) (i := 0) (j := 0) (x := 1) dX7_readPegs_20 rfl rfl ?_
        refine gfX7_35 (pc := 21) rfl h0 dX7_readPegs_21 ?_
        refine pg_iconst (pc := 24) (v := 3) dX7_readPegs_24 (by decide) ?_
        refine pg_icmp_ne (pc := 25) (tgt := 82) dX7_readPegs_25 (by decide) (fun c3 => ?_) (fun c3 => ?_)
        · skip
          refine pg_iload_n (pc := 82) (i := 1) (j := 1) (x := v1) dX7_readPegs_82 rfl rfl ?_
          exact pg_iret (pc := 83) rfl dX7_readPegs_83 (k3 c0 c1 c2 c3)
        · skip
          exact k4 c0 c1 c2 c3
theorem sX7_readPegs_28 {v1 : Int32} {v2 : Int32} {Q0 : Int32 → pg_M → Prop} {Q1 : pg_M → Prop} {Q2 : pg_M → Prop} {Q3 : pg_M → Prop} {Q4 : pg_M → Prop} {Q5 : pg_M → Prop} {Q6 : pg_M → Prop} {Q7 : pg_M → Prop} {Q8 : pg_M → Prop} {Q9 : pg_M → Prop} {Q10 : pg_M → Prop}
    (h0 : pg_isX7 Λ)
    (e0 : pg_Ev S Λ YX7_numberHere d [.ref 1, .int 0, .int 7] M (fun r M' => ∃ x, r = some (.int x) ∧ Q0 x M'))
    (e1 : ∀ x1 M1, Q0 x1 M1 → (¬ (M1.1 1 9) = 0) → (¬ v2 = 4) → pg_Ev S Λ YX7_next d [.ref 1] M1 (fun r M' => r = none ∧ Q1 M'))
    (k0 : ∀ x1 M1, Q0 x1 M1 → (¬ (M1.1 1 9) = 0) → (¬ v2 = 4) → ∀ M2, Q1 M2 → pg_At S Λ YX7_readPegs (d + 1) 4 [(0, .ref 1), (1, .int (v1 ||| ((1 : Int32) <<< (x1 &&& 31)))), (2, .int (v2 + 1))] [] M2 P)
    (e2 : ∀ x1 M1, Q0 x1 M1 → (¬ (M1.1 1 9) = 0) → (v2 = 4) → pg_Ev S Λ YX7_fail d [.ref 1, .int 5] M1 (fun r M' => r = none ∧ Q2 M'))
    (e3 : ∀ x1 M1, Q0 x1 M1 → (¬ (M1.1 1 9) = 0) → (v2 = 4) → ∀ M3, Q2 M3 → pg_Ev S Λ YX7_next d [.ref 1] M3 (fun r M' => r = none ∧ Q3 M'))
    (k1 : ∀ x1 M1, Q0 x1 M1 → (¬ (M1.1 1 9) = 0) → (v2 = 4) → ∀ M3, Q2 M3 → ∀ M4, Q3 M4 → pg_At S Λ YX7_readPegs (d + 1) 4 [(0, .ref 1), (1, .int (v1 ||| ((1 : Int32) <<< (x1 &&& 31)))), (2, .int (v2 + 1))] [] M4 P)
    (e4 : ∀ x1 M1, Q0 x1 M1 → ((M1.1 1 9) = 0) → (((v1 >>> (x1 &&& 31)) &&& 1) = 0) → (¬ v2 = 4) → pg_Ev S Λ YX7_next d [.ref 1] M1 (fun r M' => r = none ∧ Q4 M'))
    (k2 : ∀ x1 M1, Q0 x1 M1 → ((M1.1 1 9) = 0) → (((v1 >>> (x1 &&& 31)) &&& 1) = 0) → (¬ v2 = 4) → ∀ M5, Q4 M5 → pg_At S Λ YX7_readPegs (d + 1) 4 [(0, .ref 1), (1, .int (v1 ||| ((1 : Int32) <<< (x1 &&& 31)))), (2, .int (v2 + 1))] [] M5 P)
    (e5 : ∀ x1 M1, Q0 x1 M1 → ((M1.1 1 9) = 0) → (((v1 >>> (x1 &&& 31)) &&& 1) = 0) → (v2 = 4) → pg_Ev S Λ YX7_fail d [.ref 1, .int 5] M1 (fun r M' => r = none ∧ Q5 M'))
    (e6 : ∀ x1 M1, Q0 x1 M1 → ((M1.1 1 9) = 0) → (((v1 >>> (x1 &&& 31)) &&& 1) = 0) → (v2 = 4) → ∀ M6, Q5 M6 → pg_Ev S Λ YX7_next d [.ref 1] M6 (fun r M' => r = none ∧ Q6 M'))
    (k3 : ∀ x1 M1, Q0 x1 M1 → ((M1.1 1 9) = 0) → (((v1 >>> (x1 &&& 31)) &&& 1) = 0) → (v2 = 4) → ∀ M6, Q5 M6 → ∀ M7, Q6 M7 → pg_At S Λ YX7_readPegs (d + 1) 4 [(0, .ref 1), (1, .int (v1 ||| ((1 : Int32) <<< (x1 &&& 31)))), (2, .int (v2 + 1))] [] M7 P)
    (e7 : ∀ x1 M1, Q0 x1 M1 → ((M1.1 1 9) = 0) → (¬ ((v1 >>> (x1 &&& 31)) &&& 1) = 0) → pg_Ev S Λ YX7_fail d [.ref 1, .int 3] M1 (fun r M' => r = none ∧ Q7 M'))
    (e8 : ∀ x1 M1, Q0 x1 M1 → ((M1.1 1 9) = 0) → (¬ ((v1 >>> (x1 &&& 31)) &&& 1) = 0) → ∀ M8, Q7 M8 → (¬ v2 = 4) → pg_Ev S Λ YX7_next d [.ref 1] M8 (fun r M' => r = none ∧ Q8 M'))
    (k4 : ∀ x1 M1, Q0 x1 M1 → ((M1.1 1 9) = 0) → (¬ ((v1 >>> (x1 &&& 31)) &&& 1) = 0) → ∀ M8, Q7 M8 → (¬ v2 = 4) → ∀ M9, Q8 M9 → pg_At S Λ YX7_readPegs (d + 1) 4 [(0, .ref 1), (1, .int (v1 ||| ((1 : Int32) <<< (x1 &&& 31)))), (2, .int (v2 + 1))] [] M9 P)
    (e9 : ∀ x1 M1, Q0 x1 M1 → ((M1.1 1 9) = 0) → (¬ ((v1 >>> (x1 &&& 31)) &&& 1) = 0) → ∀ M8, Q7 M8 → (v2 = 4) → pg_Ev S Λ YX7_fail d [.ref 1, .int 5] M8 (fun r M' => r = none ∧ Q9 M'))
    (e10 : ∀ x1 M1, Q0 x1 M1 → ((M1.1 1 9) = 0) → (¬ ((v1 >>> (x1 &&& 31)) &&& 1) = 0) → ∀ M8, Q7 M8 → (v2 = 4) → ∀ M10, Q9 M10 → pg_Ev S Λ YX7_next d [.ref 1] M10 (fun r M' => r = none ∧ Q10 M'))
    (k5 : ∀ x1 M1, Q0 x1 M1 → ((M1.1 1 9) = 0) → (¬ ((v1 >>> (x1 &&& 31)) &&& 1) = 0) → ∀ M8, Q7 M8 → (v2 = 4) → ∀ M10, Q9 M10 → ∀ M11, Q10 M11 → pg_At S Λ YX7_readPegs (d + 1) 4 [(0, .ref 1), (1, .int (v1 ||| ((1 : Int32) <<< (x1 &&& 31)))), (2, .int (v2 + 1))] [] M11 P) :
    pg_At S Λ YX7_readPegs (d + 1) 28 [(0, .ref 1), (1, .int v1), (2, .int v2)] [] M P := by
  refine pg_aload_n (pc := 28) (i := 0) (j := 0) (x := 1) dX7_readPegs_28 rfl rfl ?_
  refine pg_iconst (pc := 29) (v := 0) dX7_readPegs_29 (by decide) ?_
  refine pg_bipush (pc := 30) (v := 7) dX7_readPegs_30 (by decide) ?_
  refine pg_callV (pc := 32) (As := [.int 0, .int 7]) (st := []) okX7_numberHere lkX7_166 rfl h0.1 rfl (Nat.le_refl _) (Nat.le_of_ble_eq_true rfl) e0 dX7_readPegs_32 (fun r1 M1 w1 => ?_)
  obtain ⟨x1, rfl, w1⟩ := w1
  refine pg_istore_n (pc := 35) (i := 3) (ls' := [(3, .int x1), (0, .ref 1), (1, .int v1), (2, .int v2)]) dX7_readPegs_35 rfl (by decide) rfl ?_
  refine pg_aload_n (pc := 36) (i := 0) (j := 1) (x := 1) dX7_readPegs_36 rfl rfl ?_
  refine gfX7_32 (pc := 37) rfl h0 dX7_readPegs_37 ?_
  refine pg_if_ne (pc := 40) (tgt := 56) dX7_readPegs_40 (by decide) (fun c0 => ?_) (fun c0 => ?_)
  · skip
    refine pg_iload_n (pc := 56) (i := 2) (j := 3) (x := v2) dX7_readPegs_56 rfl rfl ?_
    refine pg_iconst (pc := 57) (v := 4) dX7_readPegs_57 (by decide) ?_
    refine pg_icmp_ne (pc := 58) (tgt := 66) dX7_readPegs_58 (by decide) (fun c1 => ?_) (fun c1 => ?_)
    · skip
      refine pg_iload_n (pc := 66) (i := 1) (j := 2) (x := v1) dX7_readPegs_66 rfl rfl ?_
      refine pg_iconst (pc := 67) (v := 1) dX7_readPegs_67 (by decide) ?_
      refine pg_iload_n (pc := 68) (i := 3) (j := 0) (x := x1) dX7_readPegs_68 rfl rfl ?_
      refine pg_ishl (pc := 69) dX7_readPegs_69 ?_
      refine pg_ior (pc := 70) dX7_readPegs_70 ?_
      refine pg_istore_n (pc := 71) (i := 1) (ls' := [(1, .int (v1 ||| ((1 : Int32) <<< (x1 &&& 31)))), (3, .int x1), (0, .ref 1), (2, .int v2)]) dX7_readPegs_71 rfl (by decide) rfl ?_
      refine pg_aload_n (pc := 72) (i := 0) (j := 2) (x := 1) dX7_readPegs_72 rfl rfl ?_
      refine pg_callV (pc := 73) (As := []) (st := []) okX7_next lkX7_52 rfl h0.1 rfl (Nat.le_refl _) (Nat.le_of_ble_eq_true rfl) (e1 x1 M1 w1 c0 c1) dX7_readPegs_73 (fun r2 M2 w2 => ?_)
      obtain ⟨rfl, w2⟩ := w2
      refine pg_iinc (pc := 76) (i := 2) (j := 3) (x := v2) (v := v2 + 1) (ls' := [(2, .int (v2 + 1)), (1, .int (v1 ||| ((1 : Int32) <<< (x1 &&& 31)))), (3, .int x1), (0, .ref 1)]) dX7_readPegs_76 rfl rfl (by decide) rfl ?_
      refine pg_goto (pc := 79) (tgt := 4) dX7_readPegs_79 (by decide) ?_
      refine pg_drop (ks := [3, 1, 0]) (ls' := [(0, .ref 1), (1, .int (v1 ||| ((1 : Int32) <<< (x1 &&& 31)))), (2, .int (v2 + 1))]) rfl ?_
      exact k0 x1 M1 w1 c0 c1 M2 w2
    · skip
      refine pg_aload_n (pc := 61) (i := 0) (j := 1) (x := 1) dX7_readPegs_61 rfl rfl ?_
      refine pg_iconst (pc := 62) (v := 5) dX7_readPegs_62 (by decide) ?_
      refine pg_callV (pc := 63) (As := [.int 5]) (st := []) okX7_fail lkX7_68 rfl h0.1 rfl (Nat.le_refl _) (Nat.le_of_ble_eq_true rfl) (e2 x1 M1 w1 c0 c1) dX7_readPegs_63 (fun r3 M3 w3 => ?_)
      obtain ⟨rfl, w3⟩ := w3
      refine pg_iload_n (pc := 66) (i := 1) (j := 2) (x := v1) dX7_readPegs_66 rfl rfl ?_
      refine pg_iconst (pc := 67) (v := 1) dX7_readPegs_67 (by decide) ?_
      refine pg_iload_n (pc := 68) (i := 3) (j := 0) (x := x1) dX7_readPegs_68 rfl rfl ?_
      refine pg_ishl (pc := 69) dX7_readPegs_69 ?_
      refine pg_ior (pc := 70) dX7_readPegs_70 ?_
      refine pg_istore_n (pc := 71) (i := 1) (ls' := [(1, .int (v1 ||| ((1 : Int32) <<< (x1 &&& 31)))), (3, .int x1), (0, .ref 1), (2, .int v2)]) dX7_readPegs_71 rfl (by decide) rfl ?_
      refine pg_aload_n (pc := 72) (i := 0) (j := 2) (x := 1) dX7_readPegs_72 rfl rfl ?_
      refine pg_callV (pc := 73) (As := []) (st := []) okX7_next lkX7_52 rfl h0.1 rfl (Nat.le_refl _) (Nat.le_of_ble_eq_true rfl) (e3 x1 M1 w1 c0 c1 M3 w3) dX7_readPegs_73 (fun r4 M4 w4 => ?_)
      obtain ⟨rfl, w4⟩ := w4
      refine pg_iinc (pc := 76) (i := 2) (j := 3) (x := v2) (v := v2 + 1) (ls' := [(2, .int (v2 + 1)), (1, .int (v1 ||| ((1 : Int32) <<< (x1 &&& 31)))), (3, .int x1), (0, .ref 1)]) dX7_readPegs_76 rfl rfl (by decide) rfl ?_
      refine pg_goto (pc := 79) (tgt := 4) dX7_readPegs_79 (by decide) ?_
      refine pg_drop (ks := [3, 1, 0]) (ls' := [(0, .ref 1), (1, .int (v1 ||| ((1 : Int32) <<< (x1 &&& 31)))), (2, .int (v2 + 1))]) rfl ?_
      exact k1 x1 M1 w1 c0 c1 M3 w3 M4 w4
  · skip
    refine pg_iload_n (pc := 43) (i := 1) (j := 2) (x := v1) dX7_readPegs_43 rfl rfl ?_
    refine pg_iload_n (pc := 44) (i := 3) (j := 0) (x := x1) dX7_readPegs_44 rfl rfl ?_
    refine pg_ishr (pc := 45) dX7_readPegs_45 ?_
    refine pg_iconst (pc := 46) (v := 1) dX7_readPegs_46 (by decide) ?_
    refine pg_iand (pc := 47) dX7_readPegs_47 ?_
    refine pg_if_eq (pc := 48) (tgt := 56) dX7_readPegs_48 (by decide) (fun c1 => ?_) (fun c1 => ?_)
    · skip
      refine pg_iload_n (pc := 56) (i := 2) (j := 3) (x := v2) dX7_readPegs_56 rfl rfl ?_
      refine pg_iconst (pc := 57) (v := 4) dX7_readPegs_57 (by decide) ?_
      refine pg_icmp_ne (pc := 58) (tgt := 66) dX7_readPegs_58 (by decide) (fun c2 => ?_) (fun c2 => ?_)
      · skip
        refine pg_iload_n (pc := 66) (i := 1) (j := 2) (x := v1) dX7_readPegs_66 rfl rfl ?_
        refine pg_iconst (pc := 67) (v := 1) dX7_readPegs_67 (by decide) ?_
        refine pg_iload_n (pc := 68) (i := 3) (j := 0) (x := x1) dX7_readPegs_68 rfl rfl ?_
        refine pg_ishl (pc := 69) dX7_readPegs_69 ?_
        refine pg_ior (pc := 70) dX7_readPegs_70 ?_
        refine pg_istore_n (pc := 71) (i := 1) (ls' := [(1, .int (v1 ||| ((1 : Int32) <<< (x1 &&& 31)))), (3, .int x1), (0, .ref 1), (2, .int v2)]) dX7_readPegs_71 rfl (by decide) rfl ?_
        refine pg_aload_n (pc := 72) (i := 0) (j := 2) (x := 1) dX7_readPegs_72 rfl rfl ?_
        refine pg_callV (pc := 73) (As := []) (st := []) okX7_next lkX7_52 rfl h0.1 rfl (Nat.le_refl _) (Nat.le_of_ble_eq_true rfl) (e4 x1 M1 w1 c0 c1 c2) dX7_readPegs_73 (fun r5 M5 w5 => ?_)
        obtain ⟨rfl, w5⟩ := w5
        refine pg_iinc (pc := 76) (i := 2) (j := 3) (x := v2) (v := v2 + 1) (ls' := [(2, .int (v2 + 1)), (1, .int (v1 ||| ((1 : Int32) <<< (x1 &&& 31)))), (3, .int x1), (0, .ref 1)]) dX7_readPegs_76 rfl rfl (by decide) rfl ?_
        refine pg_goto (pc := 79) (tgt := 4) dX7_readPegs_79 (by decide) ?_
        refine pg_drop (ks := [3, 1, 0]) (ls' := [(0, .ref 1), (1, .int (v1 ||| ((1 : Int32) <<< (x1 &&& 31)))), (2, .int (v2 + 1))]) rfl ?_
        exact k2 x1 M1 w1 c0 c1 c2 M5 w5
      · skip
        refine pg_aload_n (pc := 61) (i := 0) (j := 1) (x := 1) dX7_readPegs_61 rfl rfl ?_
        refine pg_iconst (pc := 62) (v := 5) dX7_readPegs_62 (by decide) ?_
        refine pg_callV (pc := 63) (As := [.int 5]) (st := []) okX7_fail lkX7_68 rfl h0.1 rfl (Nat.le_refl _) (Nat.le_of_ble_eq_true rfl) (e5 x1 M1 w1 c0 c1 c2) dX7_readPegs_63 (fun r6 M6 w6 => ?_)
        obtain ⟨rfl, w6⟩ := w6
        refine pg_iload_n (pc := 66) (i := 1) (j := 2) (x := v1) dX7_readPegs_66 rfl rfl ?_
        refine pg_iconst (pc := 67) (v := 1) dX7_readPegs_67 (by decide) ?_
        refine pg_iload_n (pc := 68) (i := 3) (j := 0) (x := x1) dX7_readPegs_68 rfl rfl ?_
        refine pg_ishl (pc := 69) dX7_readPegs_69 ?_
        refine pg_ior (pc := 70) dX7_readPegs_70 ?_
        refine pg_istore_n (pc := 71) (i := 1) (ls' := [(1, .int (v1 ||| ((1 : Int32) <<< (x1 &&& 31)))), (3, .int x1), (0, .ref 1), (2, .int v2)]) dX7_readPegs_71 rfl (by decide) rfl ?_
        refine pg_aload_n (pc := 72) (i := 0) (j := 2) (x := 1) dX7_readPegs_72 rfl rfl ?_
        refine pg_callV (pc := 73) (As := []) (st := []) okX7_next lkX7_52 rfl h0.1 rfl (Nat.le_refl _) (Nat.le_of_ble_eq_true rfl) (e6 x1 M1 w1 c0 c1 c2 M6 w6) dX7_readPegs_73 (fun r7 M7 w7 => ?_)
        obtain ⟨rfl, w7⟩ := w7
        refine pg_iinc (pc := 76) (i := 2) (j := 3) (x := v2) (v := v2 + 1) (ls' := [(2, .int (v2 + 1)), (1, .int (v1 ||| ((1 : Int32) <<< (x1 &&& 31)))), (3, .int x1), (0, .ref 1)]) dX7_readPegs_76 rfl rfl (by decide) rfl ?_
        refine pg_goto (pc := 79) (tgt := 4) dX7_readPegs_79 (by decide) ?_
        refine pg_drop (ks := [3, 1, 0]) (ls' := [(0, .ref 1), (1, .int (v1 ||| ((1 : Int32) <<< (x1 &&& 31)))), (2, .int (v2 + 1))]) rfl ?_
        exact k3 x1 M1 w1 c0 c1 c2 M6 w6 M7 w7
    · skip
      refine pg_aload_n (pc := 51) (i := 0) (j := 1) (x := 1) dX7_readPegs_51 rfl rfl ?_
      refine pg_iconst (pc := 52) (v := 3) dX7_readPegs_52 (by decide) ?_
      refine pg_callV (pc := 53) (As := [.int 3]) (st := []) okX7_fail lkX7_68 rfl h0.1 rfl (Nat.le_refl _) (Nat.le_of_ble_eq_true rfl) (e7 x1 M1 w1 c0 c1) dX7_readPegs_53 (fun r8 M8 w8 => ?_)
      obtain ⟨rfl, w8⟩ := w8
      refine pg_iload_n (pc := 56) (i := 2) (j := 3) (x := v2) dX7_readPegs_56 rfl rfl ?_
      refine pg_iconst (pc := 57) (v := 4) dX7_readPegs_57 (by decide) ?_
      refine pg_icmp_ne (pc := 58) (tgt := 66) dX7_readPegs_58 (by decide) (fun c2 => ?_) (fun c2 => ?_)
      · skip
        refine pg_iload_n (pc := 66) (i := 1) (j := 2) (x := v1) dX7_readPegs_66 rfl rfl ?_
        refine pg_iconst (pc := 67) (v := 1) dX7_readPegs_67 (by decide) ?_
        refine pg_iload_n (pc := 68) (i := 3) (j := 0) (x := x1) dX7_readPegs_68 rfl rfl ?_
        refine pg_ishl (pc := 69) dX7_readPegs_69 ?_
        refine pg_ior (pc := 70) dX7_readPegs_70 ?_
        refine pg_istore_n (pc := 71) (i := 1) (ls' := [(1, .int (v1 ||| ((1 : Int32) <<< (x1 &&& 31)))), (3, .int x1), (0, .ref 1), (2, .int v2)]) dX7_readPegs_71 rfl (by decide) rfl ?_
        refine pg_aload_n (pc := 72) (i := 0) (j := 2) (x := 1) dX7_readPegs_72 rfl rfl ?_
        refine pg_callV (pc := 73) (As := []) (st := []) okX7_next lkX7_52 rfl h0.1 rfl (Nat.le_refl _) (Nat.le_of_ble_eq_true rfl) (e8 x1 M1 w1 c0 c1 M8 w8 c2) dX7_readPegs_73 (fun r9 M9 w9 => ?_)
        obtain ⟨rfl, w9⟩ := w9
        refine pg_iinc (pc := 76) (i := 2) (j := 3) (x := v2) (v := v2 + 1) (ls' := [(2, .int (v2 + 1)), (1, .int (v1 ||| ((1 : Int32) <<< (x1 &&& 31)))), (3, .int x1), (0, .ref 1)]) dX7_readPegs_76 rfl rfl (by decide) rfl ?_
        refine pg_goto (pc := 79) (tgt := 4) dX7_readPegs_79 (by decide) ?_
        refine pg_drop (ks := [3, 1, 0]) (ls' := [(0, .ref 1), (1, .int (v1 ||| ((1 : Int32) <<< (x1 &&& 31)))), (2, .int (v2 + 1))]) rfl ?_
        exact k4 x1 M1 w1 c0 c1 M8 w8 c2 M9 w9
      · skip
        refine pg_aload_n (pc := 61) (i := 0) (j := 1) (x := 1) dX7_readPegs_61 rfl rfl ?_
        refine pg_iconst (pc := 62) (v := 5) dX7_readPegs_62 (by decide) ?_
        refine pg_callV (pc := 63) (As := [.int 5]) (st := []) okX7_fail lkX7_68 rfl h0.1 rfl (Nat.le_refl _) (Nat.le_of_ble_eq_true rfl) (e9 x1 M1 w1 c0 c1 M8 w8 c2) dX7_readPegs_63 (fun r10 M10 w10 => ?_)
        obtain ⟨rfl, w10⟩ := w10
        refine pg_iload_n (pc := 66) (i := 1) (j := 2) (x := v1) dX7_readPegs_66 rfl rfl ?_
        refine pg_iconst (pc := 67) (v := 1) dX7_readPegs_67 (by decide) ?_
        refine pg_iload_n (pc := 68) (i := 3) (j := 0) (x := x1) dX7_readPegs_68 rfl rfl ?_
        refine pg_ishl (pc := 69) dX7_readPegs_69 ?_
        refine pg_ior (pc := 70) dX7_readPegs_70 ?_
        refine pg_istore_n (pc := 71) (i := 1) (ls' := [(1, .int (v1 ||| ((1 : Int32) <<< (x1 &&& 31)))), (3, .int x1), (0, .ref 1), (2, .int v2)]) dX7_readPegs_71 rfl (by decide) rfl ?_
        refine pg_aload_n (pc := 72) (i := 0) (j := 2) (x := 1) dX7_readPegs_72 rfl rfl ?_
        refine pg_callV (pc := 73) (As := []) (st := []) okX7_next lkX7_52 rfl h0.1 rfl (Nat.le_refl _) (Nat.le_of_ble_eq_true rfl) (e10 x1 M1 w1 c0 c1 M8 w8 c2 M10 w10) dX7_readPegs_73 (fun r11 M11 w11 => ?_)
        obtain ⟨rfl, w11⟩ := w11
        refine pg_iinc (pc := 76) (i := 2) (j := 3) (x := v2) (v := v2 + 1) (ls' := [(2, .int (v2 + 1)), (1, .int (v1 ||| ((1 : Int32) <<< (x1 &&& 31)))), (3, .int x1), (0, .ref 1)]) dX7_readPegs_76 rfl rfl (by decide) rfl ?_
        refine pg_goto (pc := 79) (tgt := 4) dX7_readPegs_79 (by decide) ?_
        refine pg_drop (ks := [3, 1, 0]) (ls' := [(0, .ref 1), (1, .int (v1 ||| ((1 : Int32) <<< (x1 &&& 31)))), (2, .int (v2 + 1))]) rfl ?_
        exact k5 x1 M1 w1 c0 c1 M8 w8 c2 M10 w10 M11 w11
theorem oX7_readPegs {d : Nat}  (h : pg_At S Λ YX7_readPegs d 0 [(0, .ref 1)] [] M P) : pg_Ev S Λ YX7_readPegs d [.ref 1] M P := pg_Ev.of (by decide) (by first | decide | exact Nat.le_of_ble_eq_true rfl) h
theorem sX7_readTests_0 {v1 : Nat} {v2 : Int32} {Q0 : pg_M → Prop}
    (h0 : pg_isX7 Λ)
    (e0 : pg_Ev S Λ YX7_readTest d [.ref 1, .ref v1, .int v2] M (fun r M' => r = none ∧ Q0 M'))
    (k0 : ∀ M1, Q0 M1 → pg_At S Λ YX7_readTests (d + 1) 8 [(0, .ref 1), (1, .ref v1), (2, .int v2), (3, .int 0)] [] M1 P) :
    pg_At S Λ YX7_readTests (d + 1) 0 [(0, .ref 1), (1, .ref v1), (2, .int v2)] [] M P := by
  refine pg_aload_n (pc := 0) (i := 0) (j := 0) (x := 1) dX7_readTests_0 rfl rfl ?_
  refine pg_aload_n (pc := 1) (i := 1) (j := 1) (x := v1) dX7_readTests_1 rfl rfl ?_
  refine pg_iload_n (pc := 2) (i := 2) (j := 2) (x := v2) dX7_readTests_2 rfl rfl ?_
  refine pg_callV (pc := 3) (As := [.ref v1, .int v2]) (st := []) okX7_readTest lkX7_180 rfl h0.1 rfl (Nat.le_refl _) (Nat.le_of_ble_eq_true rfl) e0 dX7_readTests_3 (fun r1 M1 w1 => ?_)
  obtain ⟨rfl, w1⟩ := w1
  refine pg_iconst (pc := 6) (v := 0) dX7_readTests_6 (by decide) ?_
  refine pg_istore_n (pc := 7) (i := 3) (ls' := [(3, .int 0), (0, .ref 1), (1, .ref v1), (2, .int v2)]) dX7_readTests_7 rfl (by decide) rfl ?_
  refine pg_drop (ks := [1, 2, 3, 0]) (ls' := [(0, .ref 1), (1, .ref v1), (2, .int v2), (3, .int 0)]) rfl ?_
  exact k0 M1 w1
theorem sX7_readTests_8 {v1 : Nat} {v2 : Int32} {v3 : Int32} {Q0 : pg_M → Prop} {Q1 : pg_M → Prop} {Q2 : pg_M → Prop} {Q3 : pg_M → Prop} {Q4 : pg_M → Prop} {Q5 : pg_M → Prop} {Q6 : pg_M → Prop} {Q7 : pg_M → Prop} {Q8 : pg_M → Prop} {Q9 : pg_M → Prop} {Q10 : pg_M → Prop} {Q11 : pg_M → Prop}
    (h0 : pg_isX7 Λ)
    (h1 : pg_isX8 Λ v1)
    (k0 : (1000 ≤ v3) → P none M)
    (k1 : (¬ 1000 ≤ v3) → (¬ (M.1 1 9) = 0) → P none M)
    (k2 : (¬ 1000 ≤ v3) → ((M.1 1 9) = 0) → (¬ (M.1 1 4) = 2) → P none M)
    (e0 : (¬ 1000 ≤ v3) → ((M.1 1 9) = 0) → ((M.1 1 4) = 2) → ((M.1 1 7) = 21) → (¬ (M.1 1 7) = 21) → pg_Ev S Λ YX7_next d [.ref 1] M (fun r M' => r = none ∧ Q0 M'))
    (e1 : (¬ 1000 ≤ v3) → ((M.1 1 9) = 0) → ((M.1 1 4) = 2) → ((M.1 1 7) = 21) → (¬ (M.1 1 7) = 21) → ∀ M1, Q0 M1 → pg_Ev S Λ YX7_readTest d [.ref 1, .ref v1, .int v2] M1 (fun r M' => r = none ∧ Q1 M'))
    (e2 : (¬ 1000 ≤ v3) → ((M.1 1 9) = 0) → ((M.1 1 4) = 2) → ((M.1 1 7) = 21) → (¬ (M.1 1 7) = 21) → ∀ M1, Q0 M1 → ∀ M2, Q1 M2 → pg_Ev S Λ YX8_add d [.ref v1, .int (-6)] M2 (fun r M' => r = none ∧ Q2 M'))
    (k3 : (¬ 1000 ≤ v3) → ((M.1 1 9) = 0) → ((M.1 1 4) = 2) → ((M.1 1 7) = 21) → (¬ (M.1 1 7) = 21) → ∀ M1, Q0 M1 → ∀ M2, Q1 M2 → ∀ M3, Q2 M3 → pg_At S Λ YX7_readTests (d + 1) 8 [(0, .ref 1), (1, .ref v1), (2, .int v2), (3, .int (v3 + 1))] [] M3 P)
    (e3 : (¬ 1000 ≤ v3) → ((M.1 1 9) = 0) → ((M.1 1 4) = 2) → ((M.1 1 7) = 21) → ((M.1 1 7) = 21) → pg_Ev S Λ YX7_next d [.ref 1] M (fun r M' => r = none ∧ Q3 M'))
    (e4 : (¬ 1000 ≤ v3) → ((M.1 1 9) = 0) → ((M.1 1 4) = 2) → ((M.1 1 7) = 21) → ((M.1 1 7) = 21) → ∀ M4, Q3 M4 → pg_Ev S Λ YX7_readTest d [.ref 1, .ref v1, .int v2] M4 (fun r M' => r = none ∧ Q4 M'))
    (e5 : (¬ 1000 ≤ v3) → ((M.1 1 9) = 0) → ((M.1 1 4) = 2) → ((M.1 1 7) = 21) → ((M.1 1 7) = 21) → ∀ M4, Q3 M4 → ∀ M5, Q4 M5 → pg_Ev S Λ YX8_add d [.ref v1, .int (-5)] M5 (fun r M' => r = none ∧ Q5 M'))
    (k4 : (¬ 1000 ≤ v3) → ((M.1 1 9) = 0) → ((M.1 1 4) = 2) → ((M.1 1 7) = 21) → ((M.1 1 7) = 21) → ∀ M4, Q3 M4 → ∀ M5, Q4 M5 → ∀ M6, Q5 M6 → pg_At S Λ YX7_readTests (d + 1) 8 [(0, .ref 1), (1, .ref v1), (2, .int v2), (3, .int (v3 + 1))] [] M6 P)
    (k5 : (¬ 1000 ≤ v3) → ((M.1 1 9) = 0) → ((M.1 1 4) = 2) → (¬ (M.1 1 7) = 21) → (¬ (M.1 1 7) = 22) → P none M)
    (e6 : (¬ 1000 ≤ v3) → ((M.1 1 9) = 0) → ((M.1 1 4) = 2) → (¬ (M.1 1 7) = 21) → ((M.1 1 7) = 22) → (¬ (M.1 1 7) = 21) → pg_Ev S Λ YX7_next d [.ref 1] M (fun r M' => r = none ∧ Q6 M'))
    (e7 : (¬ 1000 ≤ v3) → ((M.1 1 9) = 0) → ((M.1 1 4) = 2) → (¬ (M.1 1 7) = 21) → ((M.1 1 7) = 22) → (¬ (M.1 1 7) = 21) → ∀ M7, Q6 M7 → pg_Ev S Λ YX7_readTest d [.ref 1, .ref v1, .int v2] M7 (fun r M' => r = none ∧ Q7 M'))
    (e8 : (¬ 1000 ≤ v3) → ((M.1 1 9) = 0) → ((M.1 1 4) = 2) → (¬ (M.1 1 7) = 21) → ((M.1 1 7) = 22) → (¬ (M.1 1 7) = 21) → ∀ M7, Q6 M7 → ∀ M8, Q7 M8 → pg_Ev S Λ YX8_add d [.ref v1, .int (-6)] M8 (fun r M' => r = none ∧ Q8 M'))
    (k6 : (¬ 1000 ≤ v3) → ((M.1 1 9) = 0) → ((M.1 1 4) = 2) → (¬ (M.1 1 7) = 21) → ((M.1 1 7) = 22) → (¬ (M.1 1 7) = 21) → ∀ M7, Q6 M7 → ∀ M8, Q7 M8 → ∀ M9, Q8 M9 → pg_At S Λ YX7_readTests (d + 1) 8 [(0, .ref 1), (1, .ref v1), (2, .int v2), (3, .int (v3 + 1))] [] M9 P)
    (e9 : (¬ 1000 ≤ v3) → ((M.1 1 9) = 0) → ((M.1 1 4) = 2) → (¬ (M.1 1 7) = 21) → ((M.1 1 7) = 22) → ((M.1 1 7) = 21) → pg_Ev S Λ YX7_next d [.ref 1] M (fun r M' => r = none ∧ Q9 M'))
    (e10 : (¬ 1000 ≤ v3) → ((M.1 1 9) = 0) → ((M.1 1 4) = 2) → (¬ (M.1 1 7) = 21) → ((M.1 1 7) = 22) → ((M.1 1 7) = 21) → ∀ M10, Q9 M10 → pg_Ev S Λ YX7_readTest d [.ref 1, .ref v1, .int v2] M10 (fun r M' => r = none ∧ Q10 M'))
    (e11 : (¬ 1000 ≤ v3) → ((M.1 1 9) = 0) → ((M.1 1 4) = 2) → (¬ (M.1 1 7) = 21) → ((M.1 1 7) = 22) → ((M.1 1 7) = 21) → ∀ M10, Q9 M10 → ∀ M11, Q10 M11 → pg_Ev S Λ YX8_add d [.ref v1, .int (-5)] M11 (fun r M' => r = none ∧ Q11 M'))
    (k7 : (¬ 1000 ≤ v3) → ((M.1 1 9) = 0) → ((M.1 1 4) = 2) → (¬ (M.1 1 7) = 21) → ((M.1 1 7) = 22) → ((M.1 1 7) = 21) → ∀ M10, Q9 M10 → ∀ M11, Q10 M11 → ∀ M12, Q11 M12 → pg_At S Λ YX7_readTests (d + 1) 8 [(0, .ref 1), (1, .ref v1), (2, .int v2), (3, .int (v3 + 1))] [] M12 P) :
    pg_At S Λ YX7_readTests (d + 1) 8 [(0, .ref 1), (1, .ref v1), (2, .int v2), (3, .int v3)] [] M P := by
  refine pg_iload_n (pc := 8) (i := 3) (j := 3) (x := v3) dX7_readTests_8 rfl rfl ?_
  refine pg_sipush (pc := 9) (v := 1000) dX7_readTests_9 (by decide) ?_
  refine pg_icmp_ge (pc := 12) (tgt := 88) dX7_readTests_12 (by decide) (fun c0 => ?_) (fun c0 => ?_)
  · skip
    exact pg_vret (pc := 88) rfl dX7_readTests_88 (k0 c0)
  · skip
    refine pg_aload_n (pc := 15) (i := 0) (j := 0) (x := 1) dX7_readTests_15 rfl rfl ?_
    refine gfX7_32 (pc := 16) rfl h0 dX7_readTests_16 ?_
    refine pg_if_ne (pc := 19) (tgt := 88) dX7_readTests_19 (by decide) (fun c1 => ?_) (fun c1 => ?_)
    · skip
      exact pg_vret (pc := 88) rfl dX7_readTests_88 (k1 c0 c1)
    · skip
      refine pg_aload_n (pc := 22) (i := 0) (j := 0) (x := 1) dX7_readTests_22 rfl rfl ?_
      refine gfX7_35 (pc := 23) rfl h0 dX7_readTests_23 ?_
      refine pg_iconst (pc := 26) (v := 2) dX7_readTests_26 (by decide) ?_
      refine pg_icmp_ne (pc := 27) (tgt := 88) dX7_readTests_27 (by decide) (fun c2 => ?_) (fun c2 => ?_)
      · skip
        exact pg_vret (pc := 88) rfl dX7_readTests_88 (k2 c0 c1 c2)
      · skip
        refine pg_aload_n (pc := 30) (i := 0) (j := 0) (x := 1) dX7_readTests_30 rfl rfl ?_
        refine gfX7_55 (pc := 31) rfl h0 dX7_readTests_31 ?_
        refine pg_bipush (pc := 34) (v := 21) dX7_readTests_34 (by decide) ?_
        refine pg_icmp_eq (pc := 36) (tgt := 48) dX7_readTests_36 (by decide) (fun c3 => ?_) (fun c3 => ?_)
        · skip
          refine pg_aload_n (pc := 48) (i := 0) (j := 0) (x := 1) dX7_readTests_48 rfl rfl ?_
          refine gfX7_55 (pc := 49) rfl h0 dX7_readTests_49 ?_
          refine pg_bipush (pc := 52) (v := 21) dX7_readTests_52 (by decide) ?_
          refine pg_icmp_ne (pc := 54) (tgt := 62) dX7_readTests_54 (by decide) (fun c4 => ?_) (fun c4 => ?_)
          · skip
            refine pg_bipush (pc := 62) (v := (-6)) dX7_readTests_62 (by decide) ?_
            refine pg_istore (pc := 64) (i := 4) (ls' := [(4, .int (-6)), (0, .ref 1), (1, .ref v1), (2, .int v2), (3, .int v3)]) dX7_readTests_64 (by decide) rfl ?_
            refine pg_aload_n (pc := 66) (i := 0) (j := 1) (x := 1) dX7_readTests_66 rfl rfl ?_
            refine pg_callV (pc := 67) (As := []) (st := []) okX7_next lkX7_52 rfl h0.1 rfl (Nat.le_refl _) (Nat.le_of_ble_eq_true rfl) (e0 c0 c1 c2 c3 c4) dX7_readTests_67 (fun r1 M1 w1 => ?_)
            obtain ⟨rfl, w1⟩ := w1
            refine pg_aload_n (pc := 70) (i := 0) (j := 1) (x := 1) dX7_readTests_70 rfl rfl ?_
            refine pg_aload_n (pc := 71) (i := 1) (j := 2) (x := v1) dX7_readTests_71 rfl rfl ?_
            refine pg_iload_n (pc := 72) (i := 2) (j := 3) (x := v2) dX7_readTests_72 rfl rfl ?_
            refine pg_callV (pc := 73) (As := [.ref v1, .int v2]) (st := []) okX7_readTest lkX7_180 rfl h0.1 rfl (Nat.le_refl _) (Nat.le_of_ble_eq_true rfl) (e1 c0 c1 c2 c3 c4 M1 w1) dX7_readTests_73 (fun r2 M2 w2 => ?_)
            obtain ⟨rfl, w2⟩ := w2
            refine pg_aload_n (pc := 76) (i := 1) (j := 2) (x := v1) dX7_readTests_76 rfl rfl ?_
            refine pg_iload (pc := 77) (i := 4) (j := 0) (x := (-6)) dX7_readTests_77 rfl ?_
            refine pg_callV (pc := 79) (As := [.int (-6)]) (st := []) okX8_add lkX7_183 rfl h1.1 rfl (Nat.le_refl _) (Nat.le_of_ble_eq_true rfl) (e2 c0 c1 c2 c3 c4 M1 w1 M2 w2) dX7_readTests_79 (fun r3 M3 w3 => ?_)
            obtain ⟨rfl, w3⟩ := w3
            refine pg_iinc (pc := 82) (i := 3) (j := 4) (x := v3) (v := v3 + 1) (ls' := [(3, .int (v3 + 1)), (4, .int (-6)), (0, .ref 1), (1, .ref v1), (2, .int v2)]) dX7_readTests_82 rfl rfl (by decide) rfl ?_
            refine pg_goto (pc := 85) (tgt := 8) dX7_readTests_85 (by decide) ?_
            refine pg_drop (ks := [2, 3, 4, 0]) (ls' := [(0, .ref 1), (1, .ref v1), (2, .int v2), (3, .int (v3 + 1))]) rfl ?_
            exact k3 c0 c1 c2 c3 c4 M1 w1 M2 w2 M3 w3
          · skip
            refine pg_bipush (pc := 57) (v := (-5)) dX7_readTests_57 (by decide) ?_
            refine pg_goto (pc := 59) (tgt := 64) dX7_readTests_59 (by decide) ?_
            refine pg_istore (pc := 64) (i := 4) (ls' := [(4, .int (-5)), (0, .ref 1), (1, .ref v1), (2, .int v2), (3, .int v3)]) dX7_readTests_64 (by decide) rfl ?_
            refine pg_aload_n (pc := 66) (i := 0) (j := 1) (x := 1) dX7_readTests_66 rfl rfl ?_
            refine pg_callV (pc := 67) (As := []) (st := []) okX7_next lkX7_52 rfl h0.1 rfl (Nat.le_refl _) (Nat.le_of_ble_eq_true rfl) (e3 c0 c1 c2 c3 c4) dX7_readTests_67 (fun r4 M4 w4 => ?_)
            obtain ⟨rfl, w4⟩ := w4
            refine pg_aload_n (pc := 70) (i := 0) (j := 1) (x := 1) dX7_readTests_70 rfl rfl ?_
            refine pg_aload_n (pc := 71) (i := 1) (j := 2) (x := v1) dX7_readTests_71 rfl rfl ?_
            refine pg_iload_n (pc := 72) (i := 2) (j := 3) (x := v2) dX7_readTests_72 rfl rfl ?_
            refine pg_callV (pc := 73) (As := [.ref v1, .int v2]) (st := []) okX7_readTest lkX7_180 rfl h0.1 rfl (Nat.le_refl _) (Nat.le_of_ble_eq_true rfl) (e4 c0 c1 c2 c3 c4 M4 w4) dX7_readTests_73 (fun r5 M5 w5 => ?_)
            obtain ⟨rfl, w5⟩ := w5
            refine pg_aload_n (pc := 76) (i := 1) (j := 2) (x := v1) dX7_readTests_76 rfl rfl ?_
            refine pg_iload (pc := 77) (i := 4) (j := 0) (x := (-5)) dX7_readTests_77 rfl ?_
            refine pg_callV (pc := 79) (As := [.int (-5)]) (st := []) okX8_add lkX7_183 rfl h1.1 rfl (Nat.le_refl _) (Nat.le_of_ble_eq_true rfl) (e5 c0 c1 c2 c3 c4 M4 w4 M5 w5) dX7_readTests_79 (fun r6 M6 w6 => ?_)
            obtain ⟨rfl, w6⟩ := w6
            refine pg_iinc (pc := 82) (i := 3) (j := 4) (x := v3) (v := v3 + 1) (ls' := [(3, .int (v3 + 1)), (4, .int (-5)), (0, .ref 1), (1, .ref v1), (2, .int v2)]) dX7_readTests_82 rfl rfl (by decide) rfl ?_
            refine pg_goto (pc := 85) (tgt := 8) dX7_readTests_85 (by decide) ?_
            refine pg_drop (ks := [2, 3, 4, 0]) (ls' := [(0, .ref 1), (1, .ref v1), (2, .int v2), (3, .int (v3 + 1))]) rfl ?_
            exact k4 c0 c1 c2 c3 c4 M4 w4 M5 w5 M6 w6
        · skip
          refine pg_aload_n (pc := 39) (i := 0) (j := 0) (x := 1) dX7_readTests_39 rfl rfl ?_
          refine gfX7_55 (pc := 40) rfl h0 dX7_readTests_40 ?_
          refine pg_bipush (pc := 43) (v := 22) dX7_readTests_43 (by decide) ?_
          refine pg_icmp_ne (pc := 45) (tgt := 88) dX7_readTests_45 (by decide) (fun c4 => ?_) (fun c4 => ?_)
          · skip
            exact pg_vret (pc := 88) rfl dX7_readTests_88 (k5 c0 c1 c2 c3 c4)
          · skip
            refine pg_aload_n (pc := 48) (i := 0) (j := 0) (x := 1) dX7_readTests_48 rfl rfl ?_
            refine gfX7_55 (pc := 49) rfl h0 dX7_readTests_49 ?_
            refine pg_bipush (pc := 52) (v := 21) dX7_readTests_52 (by decide) ?_
            refine pg_icmp_ne (pc := 54) (tgt := 62) dX7_readTests_54 (by decide) (fun c5 => ?_) (fun c5 => ?_)
            · skip
              refine pg_bipush (pc := 62) (v := (-6)) dX7_readTests_62 (by decide) ?_
              refine pg_istore (pc := 64) (i := 4) (ls' := [(4, .int (-6)), (0, .ref 1), (1, .ref v1), (2, .int v2), (3, .int v3)]) dX7_readTests_64 (by decide) rfl ?_
              refine pg_aload_n (pc := 66) (i := 0) (j := 1) (x := 1) dX7_readTests_66 rfl rfl ?_
              refine pg_callV (pc := 67) (As := []) (st := []) okX7_next lkX7_52 rfl h0.1 rfl (Nat.le_refl _) (Nat.le_of_ble_eq_true rfl) (e6 c0 c1 c2 c3 c4 c5) dX7_readTests_67 (fun r7 M7 w7 => ?_)
              obtain ⟨rfl, w7⟩ := w7
              refine pg_aload_n (pc := 70) (i := 0) (j := 1) (x := 1) dX7_readTests_70 rfl rfl ?_
              refine pg_aload_n (pc := 71) (i := 1) (j := 2) (x := v1) dX7_readTests_71 rfl rfl ?_
              refine pg_iload_n (pc := 72) (i := 2) (j := 3) (x := v2) dX7_readTests_72 rfl rfl ?_
              refine pg_callV (pc := 73) (As := [.ref v1, .int v2]) (st := []) okX7_readTest lkX7_180 rfl h0.1 rfl (Nat.le_refl _) (Nat.le_of_ble_eq_true rfl) (e7 c0 c1 c2 c3 c4 c5 M7 w7) dX7_readTests_73 (fun r8 M8 w8 => ?_)
              obtain ⟨rfl, w8⟩ := w8
              refine pg_aload_n (pc := 76) (i := 1) (j := 2) (x := v1) dX7_readTests_76 rfl rfl ?_
              refine pg_iload (pc := 77) (i := 4) (j := 0) (x := (-6)) dX7_readTests_77 rfl ?_
              refine pg_callV (pc := 79) (As := [.int (-6)]) (st := []) okX8_add lkX7_183 rfl h1.1 rfl (Nat.le_refl _) (Nat.le_of_ble_eq_true rfl) (e8 c0 c1 c2 c3 c4 c5 M7 w7 M8 w8) dX7_readTests_79 (fun r9 M9 w9 => ?_)
              obtain ⟨rfl, w9⟩ := w9
              refine pg_iinc (pc := 82) (i := 3) (j := 4) (x := v3) (v := v3 + 1) (ls' := [(3, .int (v3 + 1)), (4, .int (-6)), (0, .ref 1), (1, .ref v1), (2, .int v2)]) dX7_readTests_82 rfl rfl (by decide) rfl ?_
              refine pg_goto (pc := 85) (tgt := 8) dX7_readTests_85 (by decide) ?_
              refine pg_drop (ks := [2, 3, 4, 0]) (ls' := [(0, .ref 1), (1, .ref v1), (2, .int v2), (3, .int (v3 + 1))]) rfl ?_
              exact k6 c0 c1 c2 c3 c4 c5 M7 w7 M8 w8 M9 w9
            · skip
              refine pg_bipush (pc := 57) (v := (-5)) dX7_readTests_57 (by decide) ?_
              refine pg_goto (pc := 59) (tgt := 64) dX7_readTests_59 (by decide) ?_
              refine pg_istore (pc := 64) (i := 4) (ls' := [(4, .int (-5)), (0, .ref 1), (1, .ref v1), (2, .int v2), (3, .int v3)]) dX7_readTests_64 (by decide) rfl ?_
              refine pg_aload_n (pc := 66) (i := 0) (j := 1) (x := 1) dX7_readTests_66 rfl rfl ?_
              refine pg_callV (pc := 67) (As := []) (st := []) okX7_next lkX7_52 rfl h0.1 rfl (Nat.le_refl _) (Nat.le_of_ble_eq_true rfl) (e9 c0 c1 c2 c3 c4 c5) dX7_readTests_67 (fun r10 M10 w10 => ?_)
              obtain ⟨rfl, w10⟩ := w10
              refine pg_aload_n (pc := 70) (i := 0) (j := 1) (x := 1) dX7_readTests_70 rfl rfl ?_
              refine pg_aload_n (pc := 71) (i := 1) (j := 2) (x := v1) dX7_readTests_71 rfl rfl ?_
              refine pg_iload_n (pc := 72) (i := 2) (j := 3) (x := v2) dX7_readTests_72 rfl rfl ?_
              refine pg_callV (pc := 73) (As := [.ref v1, .int v2]) (st := []) okX7_readTest lkX7_180 rfl h0.1 rfl (Nat.le_refl _) (Nat.le_of_ble_eq_true rfl) (e10 c0 c1 c2 c3 c4 c5 M10 w10) dX7_readTests_73 (fun r11 M11 w11 => ?_)
              obtain ⟨rfl, w11⟩ := w11
              refine pg_aload_n (pc := 76) (i := 1) (j := 2) (x := v1) dX7_readTests_76 rfl rfl ?_
              refine pg_iload (pc := 77) (i := 4) (j := 0) (x := (-5)) dX7_readTests_77 rfl ?_
              refine pg_callV (pc := 79) (As := [.int (-5)]) (st := []) okX8_add lkX7_183 rfl h1.1 rfl (Nat.le_refl _) (Nat.le_of_ble_eq_true rfl) (e11 c0 c1 c2 c3 c4 c5 M10 w10 M11 w11) dX7_readTests_79 (fun r12 M12 w12 => ?_)
              obtain ⟨rfl, w12⟩ := w12
              refine pg_iinc (pc := 82) (i := 3) (j := 4) (x := v3) (v := v3 + 1) (ls' := [(3, .int (v3 + 1)), (4, .int (-5)), (0, .ref 1), (1, .ref v1), (2, .int v2)]) dX7_readTests_82 rfl rfl (by decide) rfl ?_
              refine pg_goto (pc := 85) (tgt := 8) dX7_readTests_85 (by decide) ?_
              refine pg_drop (ks := [2, 3, 4, 0]) (ls' := [(0, .ref 1), (1, .ref v1), (2, .int v2), (3, .int (v3 + 1))]) rfl ?_
              exact k7 c0 c1 c2 c3 c4 c5 M10 w10 M11 w11 M12 w12
theorem oX7_readTests {d : Nat} {v1 : Nat} {v2 : Int32} (h : pg_At S Λ YX7_readTests d 0 [(0, .ref 1), (1, .ref v1), (2, .int v2)] [] M P) : pg_Ev S Λ YX7_readTests d [.ref 1, .ref v1, .int v2] M P := pg_Ev.of (by decide) (by first | decide | exact Nat.le_of_ble_eq_true rfl) h
theorem sX7_readTest_0 {v1 : Nat} {v2 : Int32} {Q0 : pg_M → Prop} {Q1 : pg_M → Prop} {Q2 : pg_M → Prop} {Q3 : pg_M → Prop} {Q4 : pg_M → Prop} {Q5 : pg_M → Prop} {Q6 : pg_M → Prop} {Q7 : pg_M → Prop} {Q8 : pg_M → Prop} {Q9 : pg_M → Prop} {Q10 : pg_M → Prop} {Q11 : pg_M → Prop} {Q12 : pg_M → Prop}
    (h0 : pg_isX7 Λ)
    (h1 : pg_isX8 Λ v1)
    (e0 : pg_Ev S Λ YX7_readSum d [.ref 1, .ref v1, .int v2] M (fun r M' => r = none ∧ Q0 M'))
    (k0 : ∀ M1, Q0 M1 → (¬ (M1.1 1 9) = 0) → P none M1)
    (e1 : ∀ M1, Q0 M1 → ((M1.1 1 9) = 0) → ((M1.1 1 4) = 60) → (¬ (M1.1 1 4) = 60) → pg_Ev S Λ YX7_next d [.ref 1] M1 (fun r M' => r = none ∧ Q1 M'))
    (e2 : ∀ M1, Q0 M1 → ((M1.1 1 9) = 0) → ((M1.1 1 4) = 60) → (¬ (M1.1 1 4) = 60) → ∀ M2, Q1 M2 → pg_Ev S Λ YX7_readSum d [.ref 1, .ref v1, .int v2] M2 (fun r M' => r = none ∧ Q2 M'))
    (e3 : ∀ M1, Q0 M1 → ((M1.1 1 9) = 0) → ((M1.1 1 4) = 60) → (¬ (M1.1 1 4) = 60) → ∀ M2, Q1 M2 → ∀ M3, Q2 M3 → pg_Ev S Λ YX8_add d [.ref v1, .int (-8)] M3 (fun r M' => r = none ∧ Q3 M'))
    (k1 : ∀ M1, Q0 M1 → ((M1.1 1 9) = 0) → ((M1.1 1 4) = 60) → (¬ (M1.1 1 4) = 60) → ∀ M2, Q1 M2 → ∀ M3, Q2 M3 → ∀ M4, Q3 M4 → P none M4)
    (e4 : ∀ M1, Q0 M1 → ((M1.1 1 9) = 0) → ((M1.1 1 4) = 60) → ((M1.1 1 4) = 60) → pg_Ev S Λ YX7_next d [.ref 1] M1 (fun r M' => r = none ∧ Q4 M'))
    (e5 : ∀ M1, Q0 M1 → ((M1.1 1 9) = 0) → ((M1.1 1 4) = 60) → ((M1.1 1 4) = 60) → ∀ M5, Q4 M5 → pg_Ev S Λ YX7_readSum d [.ref 1, .ref v1, .int v2] M5 (fun r M' => r = none ∧ Q5 M'))
    (e6 : ∀ M1, Q0 M1 → ((M1.1 1 9) = 0) → ((M1.1 1 4) = 60) → ((M1.1 1 4) = 60) → ∀ M5, Q4 M5 → ∀ M6, Q5 M6 → pg_Ev S Λ YX8_add d [.ref v1, .int (-7)] M6 (fun r M' => r = none ∧ Q6 M'))
    (k2 : ∀ M1, Q0 M1 → ((M1.1 1 9) = 0) → ((M1.1 1 4) = 60) → ((M1.1 1 4) = 60) → ∀ M5, Q4 M5 → ∀ M6, Q5 M6 → ∀ M7, Q6 M7 → P none M7)
    (k3 : ∀ M1, Q0 M1 → ((M1.1 1 9) = 0) → (¬ (M1.1 1 4) = 60) → (¬ (M1.1 1 4) = 61) → P none M1)
    (e7 : ∀ M1, Q0 M1 → ((M1.1 1 9) = 0) → (¬ (M1.1 1 4) = 60) → ((M1.1 1 4) = 61) → (¬ (M1.1 1 4) = 60) → pg_Ev S Λ YX7_next d [.ref 1] M1 (fun r M' => r = none ∧ Q7 M'))
    (e8 : ∀ M1, Q0 M1 → ((M1.1 1 9) = 0) → (¬ (M1.1 1 4) = 60) → ((M1.1 1 4) = 61) → (¬ (M1.1 1 4) = 60) → ∀ M8, Q7 M8 → pg_Ev S Λ YX7_readSum d [.ref 1, .ref v1, .int v2] M8 (fun r M' => r = none ∧ Q8 M'))
    (e9 : ∀ M1, Q0 M1 → ((M1.1 1 9) = 0) → (¬ (M1.1 1 4) = 60) → ((M1.1 1 4) = 61) → (¬ (M1.1 1 4) = 60) → ∀ M8, Q7 M8 → ∀ M9, Q8 M9 → pg_Ev S Λ YX8_add d [.ref v1, .int (-8)] M9 (fun r M' => r = none ∧ Q9 M'))
    (k4 : ∀ M1, Q0 M1 → ((M1.1 1 9) = 0) → (¬ (M1.1 1 4) = 60) → ((M1.1 1 4) = 61) → (¬ (M1.1 1 4) = 60) → ∀ M8, Q7 M8 → ∀ M9, Q8 M9 → ∀ M10, Q9 M10 → P none M10)
    (e10 : ∀ M1, Q0 M1 → ((M1.1 1 9) = 0) → (¬ (M1.1 1 4) = 60) → ((M1.1 1 4) = 61) → ((M1.1 1 4) = 60) → pg_Ev S Λ YX7_next d [.ref 1] M1 (fun r M' => r = none ∧ Q10 M'))
    (e11 : ∀ M1, Q0 M1 → ((M1.1 1 9) = 0) → (¬ (M1.1 1 4) = 60) → ((M1.1 1 4) = 61) → ((M1.1 1 4) = 60) → ∀ M11, Q10 M11 → pg_Ev S Λ YX7_readSum d [.ref 1, .ref v1, .int v2] M11 (fun r M' => r = none ∧ Q11 M'))
    (e12 : ∀ M1, Q0 M1 → ((M1.1 1 9) = 0) → (¬ (M1.1 1 4) = 60) → ((M1.1 1 4) = 61) → ((M1.1 1 4) = 60) → ∀ M11, Q10 M11 → ∀ M12, Q11 M12 → pg_Ev S Λ YX8_add d [.ref v1, .int (-7)] M12 (fun r M' => r = none ∧ Q12 M'))
    (k5 : ∀ M1, Q0 M1 → ((M1.1 1 9) = 0) → (¬ (M1.1 1 4) = 60) → ((M1.1 1 4) = 61) → ((M1.1 1 4) = 60) → ∀ M11, Q10 M11 → ∀ M12, Q11 M12 → ∀ M13, Q12 M13 → P none M13) :
    pg_At S Λ YX7_readTest (d + 1) 0 [(0, .ref 1), (1, .ref v1), (2, .int v2)] [] M P := by
  refine pg_aload_n (pc := 0) (i := 0) (j := 0) (x := 1) dX7_readTest_0 rfl rfl ?_
  refine pg_aload_n (pc := 1) (i := 1) (j := 1) (x := v1) dX7_readTest_1 rfl rfl ?_
  refine pg_iload_n (pc := 2) (i := 2) (j := 2) (x := v2) dX7_readTest_2 rfl rfl ?_
  refine pg_callV (pc := 3) (As := [.ref v1, .int v2]) (st := []) okX7_readSum lkX7_185 rfl h0.1 rfl (Nat.le_refl _) (Nat.le_of_ble_eq_true rfl) e0 dX7_readTest_3 (fun r1 M1 w1 => ?_)
  obtain ⟨rfl, w1⟩ := w1
  refine pg_aload_n (pc := 6) (i := 0) (j := 0) (x := 1) dX7_readTest_6 rfl rfl ?_
  refine gfX7_32 (pc := 7) rfl h0 dX7_readTest_7 ?_
  refine pg_if_ne (pc := 10) (tgt := 63) dX7_readTest_10 (by decide) (fun c0 => ?_) (fun c0 => ?_)
  · skip
    exact pg_vret (pc := 63) rfl dX7_readTest_63 (k0 M1 w1 c0)
  · skip
    refine pg_aload_n (pc := 13) (i := 0) (j := 0) (x := 1) dX7_readTest_13 rfl rfl ?_
    refine gfX7_35 (pc := 14) rfl h0 dX7_readTest_14 ?_
    refine pg_bipush (pc := 17) (v := 60) dX7_readTest_17 (by decide) ?_
    refine pg_icmp_eq (pc := 19) (tgt := 31) dX7_readTest_19 (by decide) (fun c1 => ?_) (fun c1 => ?_)
    · skip
      refine pg_aload_n (pc := 31) (i := 0) (j := 0) (x := 1) dX7_readTest_31 rfl rfl ?_
      refine gfX7_35 (pc := 32) rfl h0 dX7_readTest_32 ?_
      refine pg_bipush (pc := 35) (v := 60) dX7_readTest_35 (by decide) ?_
      refine pg_icmp_ne (pc := 37) (tgt := 45) dX7_readTest_37 (by decide) (fun c2 => ?_) (fun c2 => ?_)
      · skip
        refine pg_bipush (pc := 45) (v := (-8)) dX7_readTest_45 (by decide) ?_
        refine pg_istore_n (pc := 47) (i := 3) (ls' := [(3, .int (-8)), (0, .ref 1), (1, .ref v1), (2, .int v2)]) dX7_readTest_47 rfl (by decide) rfl ?_
        refine pg_aload_n (pc := 48) (i := 0) (j := 1) (x := 1) dX7_readTest_48 rfl rfl ?_
        refine pg_callV (pc := 49) (As := []) (st := []) okX7_next lkX7_52 rfl h0.1 rfl (Nat.le_refl _) (Nat.le_of_ble_eq_true rfl) (e1 M1 w1 c0 c1 c2) dX7_readTest_49 (fun r2 M2 w2 => ?_)
        obtain ⟨rfl, w2⟩ := w2
        refine pg_aload_n (pc := 52) (i := 0) (j := 1) (x := 1) dX7_readTest_52 rfl rfl ?_
        refine pg_aload_n (pc := 53) (i := 1) (j := 2) (x := v1) dX7_readTest_53 rfl rfl ?_
        refine pg_iload_n (pc := 54) (i := 2) (j := 3) (x := v2) dX7_readTest_54 rfl rfl ?_
        refine pg_callV (pc := 55) (As := [.ref v1, .int v2]) (st := []) okX7_readSum lkX7_185 rfl h0.1 rfl (Nat.le_refl _) (Nat.le_of_ble_eq_true rfl) (e2 M1 w1 c0 c1 c2 M2 w2) dX7_readTest_55 (fun r3 M3 w3 => ?_)
        obtain ⟨rfl, w3⟩ := w3
        refine pg_aload_n (pc := 58) (i := 1) (j := 2) (x := v1) dX7_readTest_58 rfl rfl ?_
        refine pg_iload_n (pc := 59) (i := 3) (j := 0) (x := (-8)) dX7_readTest_59 rfl rfl ?_
        refine pg_callV (pc := 60) (As := [.int (-8)]) (st := []) okX8_add lkX7_183 rfl h1.1 rfl (Nat.le_refl _) (Nat.le_of_ble_eq_true rfl) (e3 M1 w1 c0 c1 c2 M2 w2 M3 w3) dX7_readTest_60 (fun r4 M4 w4 => ?_)
        obtain ⟨rfl, w4⟩ := w4
        exact pg_vret (pc := 63) rfl dX7_readTest_63 (k1 M1 w1 c0 c1 c2 M2 w2 M3 w3 M4 w4)
      · skip
        refine pg_bipush (pc := 40) (v := (-7)) dX7_readTest_40 (by decide) ?_
        refine pg_goto (pc := 42) (tgt := 47) dX7_readTest_42 (by decide) ?_
        refine pg_istore_n (pc := 47) (i := 3) (ls' := [(3, .int (-7)), (0, .ref 1), (1, .ref v1), (2, .int v2)]) dX7_readTest_47 rfl (by decide) rfl ?_
        refine pg_aload_n (pc := 48) (i := 0) (j := 1) (x := 1) dX7_readTest_48 rfl rfl ?_
        refine pg_callV (pc := 49) (As := []) (st := []) okX7_next lkX7_52 rfl h0.1 rfl (Nat.le_refl _) (Nat.le_of_ble_eq_true rfl) (e4 M1 w1 c0 c1 c2) dX7_readTest_49 (fun r5 M5 w5 => ?_)
        obtain ⟨rfl, w5⟩ := w5
        refine pg_aload_n (pc := 52) (i := 0) (j := 1) (x := 1) dX7_readTest_52 rfl rfl ?_
        refine pg_aload_n (pc := 53) (i := 1) (j := 2) (x := v1) dX7_readTest_53 rfl rfl ?_
        refine pg_iload_n (pc := 54) (i := 2) (j := 3) (x := v2) dX7_readTest_54 rfl rfl ?_
        refine pg_callV (pc := 55) (As := [.ref v1, .int v2]) (st := []) okX7_readSum lkX7_185 rfl h0.1 rfl (Nat.le_refl _) (Nat.le_of_ble_eq_true rfl) (e5 M1 w1 c0 c1 c2 M5 w5) dX7_readTest_55 (fun r6 M6 w6 => ?_)
        obtain ⟨rfl, w6⟩ := w6
        refine pg_aload_n (pc := 58) (i := 1) (j := 2) (x := v1) dX7_readTest_58 rfl rfl ?_
        refine pg_iload_n (pc := 59) (i := 3) (j := 0) (x := (-7)) dX7_readTest_59 rfl rfl ?_
        refine pg_callV (pc := 60) (As := [.int (-7)]) (st := []) okX8_add lkX7_183 rfl h1.1 rfl (Nat.le_refl _) (Nat.le_of_ble_eq_true rfl) (e6 M1 w1 c0 c1 c2 M5 w5 M6 w6) dX7_readTest_60 (fun r7 M7 w7 => ?_)
        obtain ⟨rfl, w7⟩ := w7
        exact pg_vret (pc := 63) rfl dX7_readTest_63 (k2 M1 w1 c0 c1 c2 M5 w5 M6 w6 M7 w7)
    · skip
      refine pg_aload_n (pc := 22) (i := 0) (j := 0) (x := 1) dX7_readTest_22 rfl rfl ?_
      refine gfX7_35 (pc := 23) rfl h0 dX7_readTest_23 ?_
      refine pg_bipush (pc := 26) (v := 61) dX7_readTest_26 (by decide) ?_
      refine pg_icmp_ne (pc := 28) (tgt := 63) dX7_readTest_28 (by decide) (fun c2 => ?_) (fun c2 => ?_)
      · skip
        exact pg_vret (pc := 63) rfl dX7_readTest_63 (k3 M1 w1 c0 c1 c2)
      · skip
        refine pg_aload_n (pc := 31) (i := 0) (j := 0) (x := 1) dX7_readTest_31 rfl rfl ?_
        refine gfX7_35 (pc := 32) rfl h0 dX7_readTest_32 ?_
        refine pg_bipush (pc := 35) (v := 60) dX7_readTest_35 (by decide) ?_
        refine pg_icmp_ne (pc := 37) (tgt := 45) dX7_readTest_37 (by decide) (fun c3 => ?_) (fun c3 => ?_)
        · skip
          refine pg_bipush (pc := 45) (v := (-8)) dX7_readTest_45 (by decide) ?_
          refine pg_istore_n (pc := 47) (i := 3) (ls' := [(3, .int (-8)), (0, .ref 1), (1, .ref v1), (2, .int v2)]) dX7_readTest_47 rfl (by decide) rfl ?_
          refine pg_aload_n (pc := 48) (i := 0) (j := 1) (x := 1) dX7_readTest_48 rfl rfl ?_
          refine pg_callV (pc := 49) (As := []) (st := []) okX7_next lkX7_52 rfl h0.1 rfl (Nat.le_refl _) (Nat.le_of_ble_eq_true rfl) (e7 M1 w1 c0 c1 c2 c3) dX7_readTest_49 (fun r8 M8 w8 => ?_)
          obtain ⟨rfl, w8⟩ := w8
          refine pg_aload_n (pc := 52) (i := 0) (j := 1) (x := 1) dX7_readTest_52 rfl rfl ?_
          refine pg_aload_n (pc := 53) (i := 1) (j := 2) (x := v1) dX7_readTest_53 rfl rfl ?_
          refine pg_iload_n (pc := 54) (i := 2) (j := 3) (x := v2) dX7_readTest_54 rfl rfl ?_
          refine pg_callV (pc := 55) (As := [.ref v1, .int v2]) (st := []) okX7_readSum lkX7_185 rfl h0.1 rfl (Nat.le_refl _) (Nat.le_of_ble_eq_true rfl) (e8 M1 w1 c0 c1 c2 c3 M8 w8) dX7_readTest_55 (fun r9 M9 w9 => ?_)
          obtain ⟨rfl, w9⟩ := w9
          refine pg_aload_n (pc := 58) (i := 1) (j := 2) (x := v1) dX7_readTest_58 rfl rfl ?_
          refine pg_iload_n (pc := 59) (i := 3) (j := 0) (x := (-8)) dX7_readTest_59 rfl rfl ?_
          refine pg_callV (pc := 60) (As := [.int (-8)]) (st := []) okX8_add lkX7_183 rfl h1.1 rfl (Nat.le_refl _) (Nat.le_of_ble_eq_true rfl) (e9 M1 w1 c0 c1 c2 c3 M8 w8 M9 w9) dX7_readTest_60 (fun r10 M10 w10 => ?_)
          obtain ⟨rfl, w10⟩ := w10
          exact pg_vret (pc := 63) rfl dX7_readTest_63 (k4 M1 w1 c0 c1 c2 c3 M8 w8 M9 w9 M10 w10)
        · skip
          refine pg_bipush (pc := 40) (v := (-7)) dX7_readTest_40 (by decide) ?_
          refine pg_goto (pc := 42) (tgt := 47) dX7_readTest_42 (by decide) ?_
          refine pg_istore_n (pc := 47) (i := 3) (ls' := [(3, .int (-7)), (0, .ref 1), (1, .ref v1), (2, .int v2)]) dX7_readTest_47 rfl (by decide) rfl ?_
          refine pg_aload_n (pc := 48) (i := 0) (j := 1) (x := 1) dX7_readTest_48 rfl rfl ?_
          refine pg_callV (pc := 49) (As := []) (st := []) okX7_next lkX7_52 rfl h0.1 rfl (Nat.le_refl _) (Nat.le_of_ble_eq_true rfl) (e10 M1 w1 c0 c1 c2 c3) dX7_readTest_49 (fun r11 M11 w11 => ?_)
          obtain ⟨rfl, w11⟩ := w11
          refine pg_aload_n (pc := 52) (i := 0) (j := 1) (x := 1) dX7_readTest_52 rfl rfl ?_
          refine pg_aload_n (pc := 53) (i := 1) (j := 2) (x := v1) dX7_readTest_53 rfl rfl ?_
          refine pg_iload_n (pc := 54) (i := 2) (j := 3) (x := v2) dX7_readTest_54 rfl rfl ?_
          refine pg_callV (pc := 55) (As := [.ref v1, .int v2]) (st := []) okX7_readSum lkX7_185 rfl h0.1 rfl (Nat.le_refl _) (Nat.le_of_ble_eq_true rfl) (e11 M1 w1 c0 c1 c2 c3 M11 w11) dX7_readTest_55 (fun r12 M12 w12 => ?_)
          obtain ⟨rfl, w12⟩ := w12
          refine pg_aload_n (pc := 58) (i := 1) (j := 2) (x := v1) dX7_readTest_58 rfl rfl ?_
          refine pg_iload_n (pc := 59) (i := 3) (j := 0) (x := (-7)) dX7_readTest_59 rfl rfl ?_
          refine pg_callV (pc := 60) (As := [.int (-7)]) (st := []) okX8_add lkX7_183 rfl h1.1 rfl (Nat.le_refl _) (Nat.le_of_ble_eq_true rfl) (e12 M1 w1 c0 c1 c2 c3 M11 w11 M12 w12) dX7_readTest_60 (fun r13 M13 w13 => ?_)
          obtain ⟨rfl, w13⟩ := w13
          exact pg_vret (pc := 63) rfl dX7_readTest_63 (k5 M1 w1 c0 c1 c2 c3 M11 w11 M12 w12 M13 w13)
theorem oX7_readTest {d : Nat} {v1 : Nat} {v2 : Int32} (h : pg_At S Λ YX7_readTest d 0 [(0, .ref 1), (1, .ref v1), (2, .int v2)] [] M P) : pg_Ev S Λ YX7_readTest d [.ref 1, .ref v1, .int v2] M P := pg_Ev.of (by decide) (by first | decide | exact Nat.le_of_ble_eq_true rfl) h
theorem sX7_readSum_0 {v1 : Nat} {v2 : Int32} {Q0 : pg_M → Prop}
    (h0 : pg_isX7 Λ)
    (e0 : pg_Ev S Λ YX7_readProduct d [.ref 1, .ref v1, .int v2] M (fun r M' => r = none ∧ Q0 M'))
    (k0 : ∀ M1, Q0 M1 → pg_At S Λ YX7_readSum (d + 1) 8 [(0, .ref 1), (1, .ref v1), (2, .int v2), (3, .int 0)] [] M1 P) :
    pg_At S Λ YX7_readSum (d + 1) 0 [(0, .ref 1), (1, .ref v1), (2, .int v2)] [] M P := by
  refine pg_aload_n (pc := 0) (i := 0) (j := 0) (x := 1) dX7_readSum_0 rfl rfl ?_
  refine pg_aload_n (pc := 1) (i := 1) (j := 1) (x := v1) dX7_readSum_1 rfl rfl ?_
  refine pg_iload_n (pc := 2) (i := 2) (j := 2) (x := v2) dX7_readSum_2 rfl rfl ?_
  refine pg_callV (pc := 3) (As := [.ref v1, .int v2]) (st := []) okX7_readProduct lkX7_188 rfl h0.1 rfl (Nat.le_refl _) (Nat.le_of_ble_eq_true rfl) e0 dX7_readSum_3 (fun r1 M1 w1 => ?_)
  obtain ⟨rfl, w1⟩ := w1
  refine pg_iconst (pc := 6) (v := 0) dX7_readSum_6 (by decide) ?_
  refine pg_istore_n (pc := 7) (i := 3) (ls' := [(3, .int 0), (0, .ref 1), (1, .ref v1), (2, .int v2)]) dX7_readSum_7 rfl (by decide) rfl ?_
  refine pg_drop (ks := [1, 2, 3, 0]) (ls' := [(0, .ref 1), (1, .ref v1), (2, .int v2), (3, .int 0)]) rfl ?_
  exact k0 M1 w1
theorem sX7_readSum_8 {v1 : Nat} {v2 : Int32} {v3 : Int32} {Q0 : pg_M → Prop} {Q1 : pg_M → Prop} {Q2 : pg_M → Prop} {Q3 : pg_M → Prop} {Q4 : pg_M → Prop} {Q5 : pg_M → Prop} {Q6 : pg_M → Prop} {Q7 : pg_M → Prop} {Q8 : pg_M → Prop} {Q9 : pg_M → Prop} {Q10 : pg_M → Prop} {Q11 : pg_M → Prop}
    (h0 : pg_isX7 Λ)
    (h1 : pg_isX8 Λ v1)
    (k0 : (1000 ≤ v3) → P none M)
    (k1 : (¬ 1000 ≤ v3) → (¬ (M.1 1 9) = 0) → P none M)
    (e0 : (¬ 1000 ≤ v3) → ((M.1 1 9) = 0) → ((M.1 1 4) = 43) → (¬ (M.1 1 4) = 43) → pg_Ev S Λ YX7_next d [.ref 1] M (fun r M' => r = none ∧ Q0 M'))
    (e1 : (¬ 1000 ≤ v3) → ((M.1 1 9) = 0) → ((M.1 1 4) = 43) → (¬ (M.1 1 4) = 43) → ∀ M1, Q0 M1 → pg_Ev S Λ YX7_readProduct d [.ref 1, .ref v1, .int v2] M1 (fun r M' => r = none ∧ Q1 M'))
    (e2 : (¬ 1000 ≤ v3) → ((M.1 1 9) = 0) → ((M.1 1 4) = 43) → (¬ (M.1 1 4) = 43) → ∀ M1, Q0 M1 → ∀ M2, Q1 M2 → pg_Ev S Λ YX8_add d [.ref v1, .int (-10)] M2 (fun r M' => r = none ∧ Q2 M'))
    (k2 : (¬ 1000 ≤ v3) → ((M.1 1 9) = 0) → ((M.1 1 4) = 43) → (¬ (M.1 1 4) = 43) → ∀ M1, Q0 M1 → ∀ M2, Q1 M2 → ∀ M3, Q2 M3 → pg_At S Λ YX7_readSum (d + 1) 8 [(0, .ref 1), (1, .ref v1), (2, .int v2), (3, .int (v3 + 1))] [] M3 P)
    (e3 : (¬ 1000 ≤ v3) → ((M.1 1 9) = 0) → ((M.1 1 4) = 43) → ((M.1 1 4) = 43) → pg_Ev S Λ YX7_next d [.ref 1] M (fun r M' => r = none ∧ Q3 M'))
    (e4 : (¬ 1000 ≤ v3) → ((M.1 1 9) = 0) → ((M.1 1 4) = 43) → ((M.1 1 4) = 43) → ∀ M4, Q3 M4 → pg_Ev S Λ YX7_readProduct d [.ref 1, .ref v1, .int v2] M4 (fun r M' => r = none ∧ Q4 M'))
    (e5 : (¬ 1000 ≤ v3) → ((M.1 1 9) = 0) → ((M.1 1 4) = 43) → ((M.1 1 4) = 43) → ∀ M4, Q3 M4 → ∀ M5, Q4 M5 → pg_Ev S Λ YX8_add d [.ref v1, .int (-9)] M5 (fun r M' => r = none ∧ Q5 M'))
    (k3 : (¬ 1000 ≤ v3) → ((M.1 1 9) = 0) → ((M.1 1 4) = 43) → ((M.1 1 4) = 43) → ∀ M4, Q3 M4 → ∀ M5, Q4 M5 → ∀ M6, Q5 M6 → pg_At S Λ YX7_readSum (d + 1) 8 [(0, .ref 1), (1, .ref v1), (2, .int v2), (3, .int (v3 + 1))] [] M6 P)
    (k4 : (¬ 1000 ≤ v3) → ((M.1 1 9) = 0) → (¬ (M.1 1 4) = 43) → (¬ (M.1 1 4) = 45) → P none M)
    (e6 : (¬ 1000 ≤ v3) → ((M.1 1 9) = 0) → (¬ (M.1 1 4) = 43) → ((M.1 1 4) = 45) → (¬ (M.1 1 4) = 43) → pg_Ev S Λ YX7_next d [.ref 1] M (fun r M' => r = none ∧ Q6 M'))
    (e7 : (¬ 1000 ≤ v3) → ((M.1 1 9) = 0) → (¬ (M.1 1 4) = 43) → ((M.1 1 4) = 45) → (¬ (M.1 1 4) = 43) → ∀ M7, Q6 M7 → pg_Ev S Λ YX7_readProduct d [.ref 1, .ref v1, .int v2] M7 (fun r M' => r = none ∧ Q7 M'))
    (e8 : (¬ 1000 ≤ v3) → ((M.1 1 9) = 0) → (¬ (M.1 1 4) = 43) → ((M.1 1 4) = 45) → (¬ (M.1 1 4) = 43) → ∀ M7, Q6 M7 → ∀ M8, Q7 M8 → pg_Ev S Λ YX8_add d [.ref v1, .int (-10)] M8 (fun r M' => r = none ∧ Q8 M'))
    (k5 : (¬ 1000 ≤ v3) → ((M.1 1 9) = 0) → (¬ (M.1 1 4) = 43) → ((M.1 1 4) = 45) → (¬ (M.1 1 4) = 43) → ∀ M7, Q6 M7 → ∀ M8, Q7 M8 → ∀ M9, Q8 M9 → pg_At S Λ YX7_readSum (d + 1) 8 [(0, .ref 1), (1, .ref v1), (2, .int v2), (3, .int (v3 + 1))] [] M9 P)
    (e9 : (¬ 1000 ≤ v3) → ((M.1 1 9) = 0) → (¬ (M.1 1 4) = 43) → ((M.1 1 4) = 45) → ((M.1 1 4) = 43) → pg_Ev S Λ YX7_next d [.ref 1] M (fun r M' => r = none ∧ Q9 M'))
    (e10 : (¬ 1000 ≤ v3) → ((M.1 1 9) = 0) → (¬ (M.1 1 4) = 43) → ((M.1 1 4) = 45) → ((M.1 1 4) = 43) → ∀ M10, Q9 M10 → pg_Ev S Λ YX7_readProduct d [.ref 1, .ref v1, .int v2] M10 (fun r M' => r = none ∧ Q10 M'))
    (e11 : (¬ 1000 ≤ v3) → ((M.1 1 9) = 0) → (¬ (M.1 1 4) = 43) → ((M.1 1 4) = 45) → ((M.1 1 4) = 43) → ∀ M10, Q9 M10 → ∀ M11, Q10 M11 → pg_Ev S Λ YX8_add d [.ref v1, .int (-9)] M11 (fun r M' => r = none ∧ Q11 M'))
    (k6 : (¬ 1000 ≤ v3) → ((M.1 1 9) = 0) → (¬ (M.1 1 4) = 43) → ((M.1 1 4) = 45) → ((M.1 1 4) = 43) → ∀ M10, Q9 M10 → ∀ M11, Q10 M11 → ∀ M12, Q11 M12 → pg_At S Λ YX7_readSum (d + 1) 8 [(0, .ref 1), (1, .ref v1), (2, .int v2), (3, .int (v3 + 1))] [] M12 P) :
    pg_At S Λ YX7_readSum (d + 1) 8 [(0, .ref 1), (1, .ref v1), (2, .int v2), (3, .int v3)] [] M P := by
  refine pg_iload_n (pc := 8) (i := 3) (j := 3) (x := v3) dX7_readSum_8 rfl rfl ?_
  refine pg_sipush (pc := 9) (v := 1000) dX7_readSum_9 (by decide) ?_
  refine pg_icmp_ge (pc := 12) (tgt := 80) dX7_readSum_12 (by decide) (fun c0 => ?_) (fun c0 => ?_)
  · skip
    exact pg_vret (pc := 80) rfl dX7_readSum_80 (k0 c0)
  · skip
    refine pg_aload_n (pc := 15) (i := 0) (j := 0) (x := 1) dX7_readSum_15 rfl rfl ?_
    refine gfX7_32 (pc := 16) rfl h0 dX7_readSum_16 ?_
    refine pg_if_ne (pc := 19) (tgt := 80) dX7_readSum_19 (by decide) (fun c1 => ?_) (fun c1 => ?_)
    · skip
      exact pg_vret (pc := 80) rfl dX7_readSum_80 (k1 c0 c1)
    · skip
      refine pg_aload_n (pc := 22) (i := 0) (j := 0) (x := 1) dX7_readSum_22 rfl rfl ?_
      refine gfX7_35 (pc := 23) rfl h0 dX7_readSum_23 ?_
      refine pg_bipush (pc := 26) (v := 43) dX7_readSum_26 (by decide) ?_
      refine pg_icmp_eq (pc := 28) (tgt := 40) dX7_readSum_28 (by decide) (fun c2 => ?_) (fun c2 => ?_)
      · skip
        refine pg_aload_n (pc := 40) (i := 0) (j := 0) (x := 1) dX7_readSum_40 rfl rfl ?_
        refine gfX7_35 (pc := 41) rfl h0 dX7_readSum_41 ?_
        refine pg_bipush (pc := 44) (v := 43) dX7_readSum_44 (by decide) ?_
        refine pg_icmp_ne (pc := 46) (tgt := 54) dX7_readSum_46 (by decide) (fun c3 => ?_) (fun c3 => ?_)
        · skip
          refine pg_bipush (pc := 54) (v := (-10)) dX7_readSum_54 (by decide) ?_
          refine pg_istore (pc := 56) (i := 4) (ls' := [(4, .int (-10)), (0, .ref 1), (1, .ref v1), (2, .int v2), (3, .int v3)]) dX7_readSum_56 (by decide) rfl ?_
          refine pg_aload_n (pc := 58) (i := 0) (j := 1) (x := 1) dX7_readSum_58 rfl rfl ?_
          refine pg_callV (pc := 59) (As := []) (st := []) okX7_next lkX7_52 rfl h0.1 rfl (Nat.le_refl _) (Nat.le_of_ble_eq_true rfl) (e0 c0 c1 c2 c3) dX7_readSum_59 (fun r1 M1 w1 => ?_)
          obtain ⟨rfl, w1⟩ := w1
          refine pg_aload_n (pc := 62) (i := 0) (j := 1) (x := 1) dX7_readSum_62 rfl rfl ?_
          refine pg_aload_n (pc := 63) (i := 1) (j := 2) (x := v1) dX7_readSum_63 rfl rfl ?_
          refine pg_iload_n (pc := 64) (i := 2) (j := 3) (x := v2) dX7_readSum_64 rfl rfl ?_
          refine pg_callV (pc := 65) (As := [.ref v1, .int v2]) (st := []) okX7_readProduct lkX7_188 rfl h0.1 rfl (Nat.le_refl _) (Nat.le_of_ble_eq_true rfl) (e1 c0 c1 c2 c3 M1 w1) dX7_readSum_65 (fun r2 M2 w2 => ?_)
          obtain ⟨rfl, w2⟩ := w2
          refine pg_aload_n (pc := 68) (i := 1) (j := 2) (x := v1) dX7_readSum_68 rfl rfl ?_
          refine pg_iload (pc := 69) (i := 4) (j := 0) (x := (-10)) dX7_readSum_69 rfl ?_
          refine pg_callV (pc := 71) (As := [.int (-10)]) (st := []) okX8_add lkX7_183 rfl h1.1 rfl (Nat.le_refl _) (Nat.le_of_ble_eq_true rfl) (e2 c0 c1 c2 c3 M1 w1 M2 w2) dX7_readSum_71 (fun r3 M3 w3 => ?_)
          obtain ⟨rfl, w3⟩ := w3
          refine pg_iinc (pc := 74) (i := 3) (j := 4) (x := v3) (v := v3 + 1) (ls' := [(3, .int (v3 + 1)), (4, .int (-10)), (0, .ref 1), (1, .ref v1), (2, .int v2)]) dX7_readSum_74 rfl rfl (by decide) rfl ?_
          refine pg_goto (pc := 77) (tgt := 8) dX7_readSum_77 (by decide) ?_
          refine pg_drop (ks := [2, 3, 4, 0]) (ls' := [(0, .ref 1), (1, .ref v1), (2, .int v2), (3, .int (v3 + 1))]) rfl ?_
          exact k2 c0 c1 c2 c3 M1 w1 M2 w2 M3 w3
        · skip
          refine pg_bipush (pc := 49) (v := (-9)) dX7_readSum_49 (by decide) ?_
          refine pg_goto (pc := 51) (tgt := 56) dX7_readSum_51 (by decide) ?_
          refine pg_istore (pc := 56) (i := 4) (ls' := [(4, .int (-9)), (0, .ref 1), (1, .ref v1), (2, .int v2), (3, .int v3)]) dX7_readSum_56 (by decide) rfl ?_
          refine pg_aload_n (pc := 58) (i := 0) (j := 1) (x := 1) dX7_readSum_58 rfl rfl ?_
          refine pg_callV (pc := 59) (As := []) (st := []) okX7_next lkX7_52 rfl h0.1 rfl (Nat.le_refl _) (Nat.le_of_ble_eq_true rfl) (e3 c0 c1 c2 c3) dX7_readSum_59 (fun r4 M4 w4 => ?_)
          obtain ⟨rfl, w4⟩ := w4
          refine pg_aload_n (pc := 62) (i := 0) (j := 1) (x := 1) dX7_readSum_62 rfl rfl ?_
          refine pg_aload_n (pc := 63) (i := 1) (j := 2) (x := v1) dX7_readSum_63 rfl rfl ?_
          refine pg_iload_n (pc := 64) (i := 2) (j := 3) (x := v2) dX7_readSum_64 rfl rfl ?_
          refine pg_callV (pc := 65) (As := [.ref v1, .int v2]) (st := []) okX7_readProduct lkX7_188 rfl h0.1 rfl (Nat.le_refl _) (Nat.le_of_ble_eq_true rfl) (e4 c0 c1 c2 c3 M4 w4) dX7_readSum_65 (fun r5 M5 w5 => ?_)
          obtain ⟨rfl, w5⟩ := w5
          refine pg_aload_n (pc := 68) (i := 1) (j := 2) (x := v1) dX7_readSum_68 rfl rfl ?_
          refine pg_iload (pc := 69) (i := 4) (j := 0) (x := (-9)) dX7_readSum_69 rfl ?_
          refine pg_callV (pc := 71) (As := [.int (-9)]) (st := []) okX8_add lkX7_183 rfl h1.1 rfl (Nat.le_refl _) (Nat.le_of_ble_eq_true rfl) (e5 c0 c1 c2 c3 M4 w4 M5 w5) dX7_readSum_71 (fun r6 M6 w6 => ?_)
          obtain ⟨rfl, w6⟩ := w6
          refine pg_iinc (pc := 74) (i := 3) (j := 4) (x := v3) (v := v3 + 1) (ls' := [(3, .int (v3 + 1)), (4, .int (-9)), (0, .ref 1), (1, .ref v1), (2, .int v2)]) dX7_readSum_74 rfl rfl (by decide) rfl ?_
          refine pg_goto (pc := 77) (tgt := 8) dX7_readSum_77 (by decide) ?_
          refine pg_drop (ks := [2, 3, 4, 0]) (ls' := [(0, .ref 1), (1, .ref v1), (2, .int v2), (3, .int (v3 + 1))]) rfl ?_
          exact k3 c0 c1 c2 c3 M4 w4 M5 w5 M6 w6
      · skip
        refine pg_aload_n (pc := 31) (i := 0) (j := 0) (x := 1) dX7_readSum_31 rfl rfl ?_
        refine gfX7_35 (pc := 32) rfl h0 dX7_readSum_32 ?_
        refine pg_bipush (pc := 35) (v := 45) dX7_readSum_35 (by decide) ?_
        refine pg_icmp_ne (pc := 37) (tgt := 80) dX7_readSum_37 (by decide) (fun c3 => ?_) (fun c3 => ?_)
        · skip
          exact pg_vret (pc := 80) rfl dX7_readSum_80 (k4 c0 c1 c2 c3)
        · skip
          refine pg_aload_n (pc := 40) (i := 0) (j := 0) (x := 1) dX7_readSum_40 rfl rfl ?_
          refine gfX7_35 (pc := 41) rfl h0 dX7_readSum_41 ?_
          refine pg_bipush (pc := 44) (v := 43) dX7_readSum_44 (by decide) ?_
          refine pg_icmp_ne (pc := 46) (tgt := 54) dX7_readSum_46 (by decide) (fun c4 => ?_) (fun c4 => ?_)
          · skip
            refine pg_bipush (pc := 54) (v := (-10)) dX7_readSum_54 (by decide) ?_
            refine pg_istore (pc := 56) (i := 4) (ls' := [(4, .int (-10)), (0, .ref 1), (1, .ref v1), (2, .int v2), (3, .int v3)]) dX7_readSum_56 (by decide) rfl ?_
            refine pg_aload_n (pc := 58) (i := 0) (j := 1) (x := 1) dX7_readSum_58 rfl rfl ?_
            refine pg_callV (pc := 59) (As := []) (st := []) okX7_next lkX7_52 rfl h0.1 rfl (Nat.le_refl _) (Nat.le_of_ble_eq_true rfl) (e6 c0 c1 c2 c3 c4) dX7_readSum_59 (fun r7 M7 w7 => ?_)
            obtain ⟨rfl, w7⟩ := w7
            refine pg_aload_n (pc := 62) (i := 0) (j := 1) (x := 1) dX7_readSum_62 rfl rfl ?_
            refine pg_aload_n (pc := 63) (i := 1) (j := 2) (x := v1) dX7_readSum_63 rfl rfl ?_
            refine pg_iload_n (pc := 64) (i := 2) (j := 3) (x := v2) dX7_readSum_64 rfl rfl ?_
            refine pg_callV (pc := 65) (As := [.ref v1, .int v2]) (st := []) okX7_readProduct lkX7_188 rfl h0.1 rfl (Nat.le_refl _) (Nat.le_of_ble_eq_true rfl) (e7 c0 c1 c2 c3 c4 M7 w7) dX7_readSum_65 (fun r8 M8 w8 => ?_)
            obtain ⟨rfl, w8⟩ := w8
            refine pg_aload_n (pc := 68) (i := 1) (j := 2) (x := v1) dX7_readSum_68 rfl rfl ?_
            refine pg_iload (pc := 69) (i := 4) (j := 0) (x := (-10)) dX7_readSum_69 rfl ?_
            refine pg_callV (pc := 71) (As := [.int (-10)]) (st := []) okX8_add lkX7_183 rfl h1.1 rfl (Nat.le_refl _) (Nat.le_of_ble_eq_true rfl) (e8 c0 c1 c2 c3 c4 M7 w7 M8 w8) dX7_readSum_71 (fun r9 M9 w9 => ?_)
            obtain ⟨rfl, w9⟩ := w9
            refine pg_iinc (pc := 74) (i := 3) (j := 4) (x := v3) (v := v3 + 1) (ls' := [(3, .int (v3 + 1)), (4, .int (-10)), (0, .ref 1), (1, .ref v1), (2, .int v2)]) dX7_readSum_74 rfl rfl (by decide) rfl ?_
            refine pg_goto (pc := 77) (tgt := 8) dX7_readSum_77 (by decide) ?_
            refine pg_drop (ks := [2, 3, 4, 0]) (ls' := [(0, .ref 1), (1, .ref v1), (2, .int v2), (3, .int (v3 + 1))]) rfl ?_
            exact k5 c0 c1 c2 c3 c4 M7 w7 M8 w8 M9 w9
          · skip
            refine pg_bipush (pc := 49) (v := (-9)) dX7_readSum_49 (by decide) ?_
            refine pg_goto (pc := 51) (tgt := 56) dX7_readSum_51 (by decide) ?_
            refine pg_istore (pc := 56) (i := 4) (ls' := [(4, .int (-9)), (0, .ref 1), (1, .ref v1), (2, .int v2), (3, .int v3)]) dX7_readSum_56 (by decide) rfl ?_
            refine pg_aload_n (pc := 58) (i := 0) (j := 1) (x := 1) dX7_readSum_58 rfl rfl ?_
            refine pg_callV (pc := 59) (As := []) (st := []) okX7_next lkX7_52 rfl h0.1 rfl (Nat.le_refl _) (Nat.le_of_ble_eq_true rfl) (e9 c0 c1 c2 c3 c4) dX7_readSum_59 (fun r10 M10 w10 => ?_)
            obtain ⟨rfl, w10⟩ := w10
            refine pg_aload_n (pc := 62) (i := 0) (j := 1) (x := 1) dX7_readSum_62 rfl rfl ?_
            refine pg_aload_n (pc := 63) (i := 1) (j := 2) (x := v1) dX7_readSum_63 rfl rfl ?_
            refine pg_iload_n (pc := 64) (i := 2) (j := 3) (x := v2) dX7_readSum_64 rfl rfl ?_
            refine pg_callV (pc := 65) (As := [.ref v1, .int v2]) (st := []) okX7_readProduct lkX7_188 rfl h0.1 rfl (Nat.le_refl _) (Nat.le_of_ble_eq_true rfl) (e10 c0 c1 c2 c3 c4 M10 w10) dX7_readSum_65 (fun r11 M11 w11 => ?_)
            obtain ⟨rfl, w11⟩ := w11
            refine pg_aload_n (pc := 68) (i := 1) (j := 2) (x := v1) dX7_readSum_68 rfl rfl ?_
            refine pg_iload (pc := 69) (i := 4) (j := 0) (x := (-9)) dX7_readSum_69 rfl ?_
            refine pg_callV (pc := 71) (As := [.int (-9)]) (st := []) okX8_add lkX7_183 rfl h1.1 rfl (Nat.le_refl _) (Nat.le_of_ble_eq_true rfl) (e11 c0 c1 c2 c3 c4 M10 w10 M11 w11) dX7_readSum_71 (fun r12 M12 w12 => ?_)
            obtain ⟨rfl, w12⟩ := w12
            refine pg_iinc (pc := 74) (i := 3) (j := 4) (x := v3) (v := v3 + 1) (ls' := [(3, .int (v3 + 1)), (4, .int (-9)), (0, .ref 1), (1, .ref v1), (2, .int v2)]) dX7_readSum_74 rfl rfl (by decide) rfl ?_
            refine pg_goto (pc := 77) (tgt := 8) dX7_readSum_77 (by decide) ?_
            refine pg_drop (ks := [2, 3, 4, 0]) (ls' := [(0, .ref 1), (1, .ref v1), (2, .int v2), (3, .int (v3 + 1))]) rfl ?_
            exact k6 c0 c1 c2 c3 c4 M10 w10 M11 w11 M12 w12
theorem oX7_readSum {d : Nat} {v1 : Nat} {v2 : Int32} (h : pg_At S Λ YX7_readSum d 0 [(0, .ref 1), (1, .ref v1), (2, .int v2)] [] M P) : pg_Ev S Λ YX7_readSum d [.ref 1, .ref v1, .int v2] M P := pg_Ev.of (by decide) (by first | decide | exact Nat.le_of_ble_eq_true rfl) h
theorem sX7_readProduct_0 {v1 : Nat} {v2 : Int32} {Q0 : pg_M → Prop}
    (h0 : pg_isX7 Λ)
    (e0 : pg_Ev S Λ YX7_readPart d [.ref 1, .ref v1, .int v2] M (fun r M' => r = none ∧ Q0 M'))
    (k0 : ∀ M1, Q0 M1 → pg_At S Λ YX7_readProduct (d + 1) 8 [(0, .ref 1), (1, .ref v1), (2, .int v2), (3, .int 0)] [] M1 P) :
    pg_At S Λ YX7_readProduct (d + 1) 0 [(0, .ref 1), (1, .ref v1), (2, .int v2)] [] M P := by
  refine pg_aload_n (pc := 0) (i := 0) (j := 0) (x := 1) dX7_readProduct_0 rfl rfl ?_
  refine pg_aload_n (pc := 1) (i := 1) (j := 1) (x := v1) dX7_readProduct_1 rfl rfl ?_
  refine pg_iload_n (pc := 2) (i := 2) (j := 2) (x := v2) dX7_readProduct_2 rfl rfl ?_
  refine pg_callV (pc := 3) (As := [.ref v1, .int v2]) (st := []) okX7_readPart lkX7_191 rfl h0.1 rfl (Nat.le_refl _) (Nat.le_of_ble_eq_true rfl) e0 dX7_readProduct_3 (fun r1 M1 w1 => ?_)
  obtain ⟨rfl, w1⟩ := w1
  refine pg_iconst (pc := 6) (v := 0) dX7_readProduct_6 (by decide) ?_
  refine pg_istore_n (pc := 7) (i := 3) (ls' := [(3, .int 0), (0, .ref 1), (1, .ref v1), (2, .int v2)]) dX7_readProduct_7 rfl (by decide) rfl ?_
  refine pg_drop (ks := [1, 2, 3, 0]) (ls' := [(0, .ref 1), (1, .ref v1), (2, .int v2), (3, .int 0)]) rfl ?_
  exact k0 M1 w1
theorem sX7_readProduct_8 {v1 : Nat} {v2 : Int32} {v3 : Int32} {Q0 : pg_M → Prop} {Q1 : pg_M → Prop} {Q2 : pg_M → Prop}
    (h0 : pg_isX7 Λ)
    (h1 : pg_isX8 Λ v1)
    (k0 : (1000 ≤ v3) → P none M)
    (k1 : (¬ 1000 ≤ v3) → (¬ (M.1 1 9) = 0) → P none M)
    (k2 : (¬ 1000 ≤ v3) → ((M.1 1 9) = 0) → (¬ (M.1 1 4) = 42) → P none M)
    (e0 : (¬ 1000 ≤ v3) → ((M.1 1 9) = 0) → ((M.1 1 4) = 42) → pg_Ev S Λ YX7_next d [.ref 1] M (fun r M' => r = none ∧ Q0 M'))
    (e1 : (¬ 1000 ≤ v3) → ((M.1 1 9) = 0) → ((M.1 1 4) = 42) → ∀ M1, Q0 M1 → pg_Ev S Λ YX7_readPart d [.ref 1, .ref v1, .int v2] M1 (fun r M' => r = none ∧ Q1 M'))
    (e2 : (¬ 1000 ≤ v3) → ((M.1 1 9) = 0) → ((M.1 1 4) = 42) → ∀ M1, Q0 M1 → ∀ M2, Q1 M2 → pg_Ev S Λ YX8_add d [.ref v1, .int (-11)] M2 (fun r M' => r = none ∧ Q2 M'))
    (k3 : (¬ 1000 ≤ v3) → ((M.1 1 9) = 0) → ((M.1 1 4) = 42) → ∀ M1, Q0 M1 → ∀ M2, Q1 M2 → ∀ M3, Q2 M3 → pg_At S Λ YX7_readProduct (d + 1) 8 [(0, .ref 1), (1, .ref v1), (2, .int v2), (3, .int (v3 + 1))] [] M3 P) :
    pg_At S Λ YX7_readProduct (d + 1) 8 [(0, .ref 1), (1, .ref v1), (2, .int v2), (3, .int v3)] [] M P := by
  refine pg_iload_n (pc := 8) (i := 3) (j := 3) (x := v3) dX7_readProduct_8 rfl rfl ?_
  refine pg_sipush (pc := 9) (v := 1000) dX7_readProduct_9 (by decide) ?_
  refine pg_icmp_ge (pc := 12) (tgt := 53) dX7_readProduct_12 (by decide) (fun c0 => ?_) (fun c0 => ?_)
  · skip
    exact pg_vret (pc := 53) rfl dX7_readProduct_53 (k0 c0)
  · skip
    refine pg_aload_n (pc := 15) (i := 0) (j := 0) (x := 1) dX7_readProduct_15 rfl rfl ?_
    refine gfX7_32 (pc := 16) rfl h0 dX7_readProduct_16 ?_
    refine pg_if_ne (pc := 19) (tgt := 53) dX7_readProduct_19 (by decide) (fun c1 => ?_) (fun c1 => ?_)
    · skip
      exact pg_vret (pc := 53) rfl dX7_readProduct_53 (k1 c0 c1)
    · skip
      refine pg_aload_n (pc := 22) (i := 0) (j := 0) (x := 1) dX7_readProduct_22 rfl rfl ?_
      refine gfX7_35 (pc := 23) rfl h0 dX7_readProduct_23 ?_
      refine pg_bipush (pc := 26) (v := 42) dX7_readProduct_26 (by decide) ?_
      refine pg_icmp_ne (pc := 28) (tgt := 53) dX7_readProduct_28 (by decide) (fun c2 => ?_) (fun c2 => ?_)
      · skip
        exact pg_vret (pc := 53) rfl dX7_readProduct_53 (k2 c0 c1 c2)
      · skip
        refine pg_aload_n (pc := 31) (i := 0) (j := 0) (x := 1) dX7_readProduct_31 rfl rfl ?_
        refine pg_callV (pc := 32) (As := []) (st := []) okX7_next lkX7_52 rfl h0.1 rfl (Nat.le_refl _) (Nat.le_of_ble_eq_true rfl) (e0 c0 c1 c2) dX7_readProduct_32 (fun r1 M1 w1 => ?_)
        obtain ⟨rfl, w1⟩ := w1
        refine pg_aload_n (pc := 35) (i := 0) (j := 0) (x := 1) dX7_readProduct_35 rfl rfl ?_
        refine pg_aload_n (pc := 36) (i := 1) (j := 1) (x := v1) dX7_readProduct_36 rfl rfl ?_
        refine pg_iload_n (pc := 37) (i := 2) (j := 2) (x := v2) dX7_readProduct_37 rfl rfl ?_
        refine pg_callV (pc := 38) (As := [.ref v1, .int v2]) (st := []) okX7_readPart lkX7_191 rfl h0.1 rfl (Nat.le_refl _) (Nat.le_of_ble_eq_true rfl) (e1 c0 c1 c2 M1 w1) dX7_readProduct_38 (fun r2 M2 w2 => ?_)
        obtain ⟨rfl, w2⟩ := w2
        refine pg_aload_n (pc := 41) (i := 1) (j := 1) (x := v1) dX7_readProduct_41 rfl rfl ?_
        refine pg_bipush (pc := 42) (v := (-11)) dX7_readProduct_42 (by decide) ?_
        refine pg_callV (pc := 44) (As := [.int (-11)]) (st := []) okX8_add lkX7_183 rfl h1.1 rfl (Nat.le_refl _) (Nat.le_of_ble_eq_true rfl) (e2 c0 c1 c2 M1 w1 M2 w2) dX7_readProduct_44 (fun r3 M3 w3 => ?_)
        obtain ⟨rfl, w3⟩ := w3
        refine pg_iinc (pc := 47) (i := 3) (j := 3) (x := v3) (v := v3 + 1) (ls' := [(3, .int (v3 + 1)), (0, .ref 1), (1, .ref v1), (2, .int v2)]) dX7_readProduct_47 rfl rfl (by decide) rfl ?_
        refine pg_goto (pc := 50) (tgt := 8) dX7_readProduct_50 (by decide) ?_
        refine pg_drop (ks := [1, 2, 3, 0]) (ls' := [(0, .ref 1), (1, .ref v1), (2, .int v2), (3, .int (v3 + 1))]) rfl ?_
        exact k3 c0 c1 c2 M1 w1 M2 w2 M3 w3
theorem oX7_readProduct {d : Nat} {v1 : Nat} {v2 : Int32} (h : pg_At S Λ YX7_readProduct d 0 [(0, .ref 1), (1, .ref v1), (2, .int v2)] [] M P) : pg_Ev S Λ YX7_readProduct d [.ref 1, .ref v1, .int v2] M P := pg_Ev.of (by decide) (by first | decide | exact Nat.le_of_ble_eq_true rfl) h
theorem sX7_readPart_0 {v1 : Nat} {v2 : Int32} 
    (h0 : pg_isX7 Λ)
    (k0 : (¬ (M.1 1 4) = 2) → pg_At S Λ YX7_readPart (d + 1) 22 [(0, .ref 1), (1, .ref v1), (2, .int v2)] [.int 0] M P)
    (k1 : ((M.1 1 4) = 2) → ((M.1 1 7) < 23) → pg_At S Λ YX7_readPart (d + 1) 22 [(0, .ref 1), (1, .ref v1), (2, .int v2)] [.int 0] M P)
    (k2 : ((M.1 1 4) = 2) → (¬ (M.1 1 7) < 23) → pg_At S Λ YX7_readPart (d + 1) 22 [(0, .ref 1), (1, .ref v1), (2, .int v2)] [.int 1] M P) :
    pg_At S Λ YX7_readPart (d + 1) 0 [(0, .ref 1), (1, .ref v1), (2, .int v2)] [] M P := by
  refine pg_aload_n (pc := 0) (i := 0) (j := 0) (x := 1) dX7_readPart_0 rfl rfl ?_
  refine gfX7_35 (pc := 1) rfl h0 dX7_readPart_1 ?_
  refine pg_iconst (pc := 4) (v := 2) dX7_readPart_4 (by decide) ?_
  refine pg_icmp_ne (pc := 5) (tgt := 21) dX7_readPart_5 (by decide) (fun c0 => ?_) (fun c0 => ?_)
  · skip
    refine pg_iconst (pc := 21) (v := 0) dX7_readPart_21 (by decide) ?_
    exact k0 c0
  · skip
    refine pg_aload_n (pc := 8) (i := 0) (j := 0) (x := 1) dX7_readPart_8 rfl rfl ?_
    refine gfX7_55 (pc := 9) rfl h0 dX7_readPart_9 ?_
    refine pg_bipush (pc := 12) (v := 23) dX7_readPart_12 (by decide) ?_
    refine pg_icmp_lt (pc := 14) (tgt := 21) dX7_readPart_14 (by decide) (fun c1 => ?_) (fun c1 => ?_)
    · skip
      refine pg_iconst (pc := 21) (v := 0) dX7_readPart_21 (by decide) ?_
      exact k1 c0 c1
    · skip
      refine pg_iconst (pc := 17) (v := 1) dX7_readPart_17 (by decide) ?_
      refine pg_goto (pc := 18) (tgt := 22) dX7_readPart_18 (by decide) ?_
      exact k2 c0 c1
theorem sX7_readPart_22 {v1 : Nat} {v2 : Int32} {s0 : Int32} 
    (h0 : pg_isX7 Λ)
    (k0 : (¬ (M.1 1 4) = 2) → pg_At S Λ YX7_readPart (d + 1) 45 [(0, .ref 1), (1, .ref v1), (2, .int v2), (3, .int s0)] [.int 0] M P)
    (k1 : ((M.1 1 4) = 2) → (¬ (M.1 1 7) = 20) → pg_At S Λ YX7_readPart (d + 1) 45 [(0, .ref 1), (1, .ref v1), (2, .int v2), (3, .int s0)] [.int 0] M P)
    (k2 : ((M.1 1 4) = 2) → ((M.1 1 7) = 20) → pg_At S Λ YX7_readPart (d + 1) 45 [(0, .ref 1), (1, .ref v1), (2, .int v2), (3, .int s0)] [.int 1] M P) :
    pg_At S Λ YX7_readPart (d + 1) 22 [(0, .ref 1), (1, .ref v1), (2, .int v2)] [.int s0] M P := by
  refine pg_istore_n (pc := 22) (i := 3) (ls' := [(3, .int s0), (0, .ref 1), (1, .ref v1), (2, .int v2)]) dX7_readPart_22 rfl (by decide) rfl ?_
  refine pg_aload_n (pc := 23) (i := 0) (j := 1) (x := 1) dX7_readPart_23 rfl rfl ?_
  refine gfX7_35 (pc := 24) rfl h0 dX7_readPart_24 ?_
  refine pg_iconst (pc := 27) (v := 2) dX7_readPart_27 (by decide) ?_
  refine pg_icmp_ne (pc := 28) (tgt := 44) dX7_readPart_28 (by decide) (fun c0 => ?_) (fun c0 => ?_)
  · skip
    refine pg_iconst (pc := 44) (v := 0) dX7_readPart_44 (by decide) ?_
    refine pg_drop (ks := [1, 2, 3, 0]) (ls' := [(0, .ref 1), (1, .ref v1), (2, .int v2), (3, .int s0)]) rfl ?_
    exact k0 c0
  · skip
    refine pg_aload_n (pc := 31) (i := 0) (j := 1) (x := 1) dX7_readPart_31 rfl rfl ?_
    refine gfX7_55 (pc := 32) rfl h0 dX7_readPart_32 ?_
    refine pg_bipush (pc := 35) (v := 20) dX7_readPart_35 (by decide) ?_
    refine pg_icmp_ne (pc := 37) (tgt := 44) dX7_readPart_37 (by decide) (fun c1 => ?_) (fun c1 => ?_)
    · skip
      refine pg_iconst (pc := 44) (v := 0) dX7_readPart_44 (by decide) ?_
      refine pg_drop (ks := [1, 2, 3, 0]) (ls' := [(0, .ref 1), (1, .ref v1), (2, .int v2), (3, .int s0)]) rfl ?_
      exact k1 c0 c1
    · skip
      refine pg_iconst (pc := 40) (v := 1) dX7_readPart_40 (by decide) ?_
      refine pg_goto (pc := 41) (tgt := 45) dX7_readPart_41 (by decide) ?_
      refine pg_drop (ks := [1, 2, 3, 0]) (ls' := [(0, .ref 1), (1, .ref v1), (2, .int v2), (3, .int s0)]) rfl ?_
      exact k2 c0 c1
theorem sX7_readPart_45 {v1 : Nat} {v2 : Int32} {v3 : Int32} {s0 : Int32} {Q0 : pg_M → Prop}
    (h0 : pg_isX7 Λ)
    (k0 : (¬ v3 = 0) → pg_At S Λ YX7_readPart (d + 1) 79 [(0, .ref 1), (1, .ref v1), (2, .int v2), (3, .int v3), (4, .int s0)] [] M P)
    (k1 : (v3 = 0) → (¬ s0 = 0) → pg_At S Λ YX7_readPart (d + 1) 79 [(0, .ref 1), (1, .ref v1), (2, .int v2), (3, .int v3), (4, .int s0)] [] M P)
    (k2 : (v3 = 0) → (s0 = 0) → ((M.1 1 4) = 3) → pg_At S Λ YX7_readPart (d + 1) 79 [(0, .ref 1), (1, .ref v1), (2, .int v2), (3, .int v3), (4, .int s0)] [] M P)
    (k3 : (v3 = 0) → (s0 = 0) → (¬ (M.1 1 4) = 3) → ((M.1 1 4) = 40) → pg_At S Λ YX7_readPart (d + 1) 79 [(0, .ref 1), (1, .ref v1), (2, .int v2), (3, .int v3), (4, .int s0)] [] M P)
    (e0 : (v3 = 0) → (s0 = 0) → (¬ (M.1 1 4) = 3) → (¬ (M.1 1 4) = 40) → pg_Ev S Λ YX7_fail d [.ref 1, .int 1] M (fun r M' => r = none ∧ Q0 M'))
    (k4 : (v3 = 0) → (s0 = 0) → (¬ (M.1 1 4) = 3) → (¬ (M.1 1 4) = 40) → ∀ M1, Q0 M1 → P none M1) :
    pg_At S Λ YX7_readPart (d + 1) 45 [(0, .ref 1), (1, .ref v1), (2, .int v2), (3, .int v3)] [.int s0] M P := by
  refine pg_istore (pc := 45) (i := 4) (ls' := [(4, .int s0), (0, .ref 1), (1, .ref v1), (2, .int v2), (3, .int v3)]) dX7_readPart_45 (by decide) rfl ?_
  refine pg_iload_n (pc := 47) (i := 3) (j := 4) (x := v3) dX7_readPart_47 rfl rfl ?_
  refine pg_if_ne (pc := 48) (tgt := 79) dX7_readPart_48 (by decide) (fun c0 => ?_) (fun c0 => ?_)
  · skip
    refine pg_drop (ks := [1, 2, 3, 4, 0]) (ls' := [(0, .ref 1), (1, .ref v1), (2, .int v2), (3, .int v3), (4, .int s0)]) rfl ?_
    exact k0 c0
  · skip
    refine pg_iload (pc := 51) (i := 4) (j := 0) (x := s0) dX7_readPart_51 rfl ?_
    refine pg_if_ne (pc := 53) (tgt := 79) dX7_readPart_53 (by decide) (fun c1 => ?_) (fun c1 => ?_)
    · skip
      refine pg_drop (ks := [1, 2, 3, 4, 0]) (ls' := [(0, .ref 1), (1, .ref v1), (2, .int v2), (3, .int v3), (4, .int s0)]) rfl ?_
      exact k1 c0 c1
    · skip
      refine pg_aload_n (pc := 56) (i := 0) (j := 1) (x := 1) dX7_readPart_56 rfl rfl ?_
      refine gfX7_35 (pc := 57) rfl h0 dX7_readPart_57 ?_
      refine pg_iconst (pc := 60) (v := 3) dX7_readPart_60 (by decide) ?_
      refine pg_icmp_eq (pc := 61) (tgt := 79) dX7_readPart_61 (by decide) (fun c2 => ?_) (fun c2 => ?_)
      · skip
        refine pg_drop (ks := [1, 2, 3, 4, 0]) (ls' := [(0, .ref 1), (1, .ref v1), (2, .int v2), (3, .int v3), (4, .int s0)]) rfl ?_
        exact k2 c0 c1 c2
      · skip
        refine pg_aload_n (pc := 64) (i := 0) (j := 1) (x := 1) dX7_readPart_64 rfl rfl ?_
        refine gfX7_35 (pc := 65) rfl h0 dX7_readPart_65 ?_
        refine pg_bipush (pc := 68) (v := 40) dX7_readPart_68 (by decide) ?_
        refine pg_icmp_eq (pc := 70) (tgt := 79) dX7_readPart_70 (by decide) (fun c3 => ?_) (fun c3 => ?_)
        · skip
          refine pg_drop (ks := [1, 2, 3, 4, 0]) (ls' := [(0, .ref 1), (1, .ref v1), (2, .int v2), (3, .int v3), (4, .int s0)]) rfl ?_
          exact k3 c0 c1 c2 c3
        · skip
          refine pg_aload_n (pc := 73) (i := 0) (j := 1) (x := 1) dX7_readPart_73 rfl rfl ?_
          refine pg_iconst (pc := 74) (v := 1) dX7_readPart_74 (by decide) ?_
          refine pg_callV (pc := 75) (As := [.int 1]) (st := []) okX7_fail lkX7_68 rfl h0.1 rfl (Nat.le_refl _) (Nat.le_of_ble_eq_true rfl) (e0 c0 c1 c2 c3) dX7_readPart_75 (fun r1 M1 w1 => ?_)
          obtain ⟨rfl, w1⟩ := w1
          exact pg_vret (pc := 78) rfl dX7_readPart_78 (k4 c0 c1 c2 c3 M1 w1)
theorem sX7_readPart_79 {v1 : Nat} {v2 : Int32} {v3 : Int32} {v4 : Int32} {Q0 : pg_M → Prop} {Q1 : pg_M → Prop} {Q2 : pg_M → Prop} {Q3 : pg_M → Prop} {Q4 : pg_M → Prop} {Q5 : pg_M → Prop} {Q6 : pg_M → Prop} {Q7 : pg_M → Prop} {Q8 : pg_M → Prop} {Q9 : pg_M → Prop} {Q10 : pg_M → Prop}
    (h0 : pg_isX7 Λ)
    (h1 : pg_isX8 Λ v1)
    (e0 : (v2 < 5) → (¬ (M.1 1 4) = 40) → (v4 = 0) → (v3 = 0) → pg_Ev S Λ YX8_add d [.ref v1, .int (M.1 1 5)] M (fun r M' => r = none ∧ Q0 M'))
    (e1 : (v2 < 5) → (¬ (M.1 1 4) = 40) → (v4 = 0) → (v3 = 0) → ∀ M1, Q0 M1 → pg_Ev S Λ YX7_next d [.ref 1] M1 (fun r M' => r = none ∧ Q1 M'))
    (k0 : (v2 < 5) → (¬ (M.1 1 4) = 40) → (v4 = 0) → (v3 = 0) → ∀ M1, Q0 M1 → ∀ M2, Q1 M2 → P none M2)
    (e2 : (v2 < 5) → (¬ (M.1 1 4) = 40) → (v4 = 0) → (¬ v3 = 0) → pg_Ev S Λ YX8_add d [.ref v1, .int ((-1) - ((M.1 1 7) - 23))] M (fun r M' => r = none ∧ Q2 M'))
    (e3 : (v2 < 5) → (¬ (M.1 1 4) = 40) → (v4 = 0) → (¬ v3 = 0) → ∀ M3, Q2 M3 → pg_Ev S Λ YX7_next d [.ref 1] M3 (fun r M' => r = none ∧ Q3 M'))
    (k1 : (v2 < 5) → (¬ (M.1 1 4) = 40) → (v4 = 0) → (¬ v3 = 0) → ∀ M3, Q2 M3 → ∀ M4, Q3 M4 → P none M4)
    (e4 : (v2 < 5) → (¬ (M.1 1 4) = 40) → (¬ v4 = 0) → pg_Ev S Λ YX7_next d [.ref 1] M (fun r M' => r = none ∧ Q4 M'))
    (e5 : (v2 < 5) → (¬ (M.1 1 4) = 40) → (¬ v4 = 0) → ∀ M5, Q4 M5 → pg_Ev S Λ YX7_readPart d [.ref 1, .ref v1, .int (v2 + 1)] M5 (fun r M' => r = none ∧ Q5 M'))
    (e6 : (v2 < 5) → (¬ (M.1 1 4) = 40) → (¬ v4 = 0) → ∀ M5, Q4 M5 → ∀ M6, Q5 M6 → pg_Ev S Λ YX8_add d [.ref v1, .int (-4)] M6 (fun r M' => r = none ∧ Q6 M'))
    (k2 : (v2 < 5) → (¬ (M.1 1 4) = 40) → (¬ v4 = 0) → ∀ M5, Q4 M5 → ∀ M6, Q5 M6 → ∀ M7, Q6 M7 → P none M7)
    (e7 : (v2 < 5) → ((M.1 1 4) = 40) → pg_Ev S Λ YX7_next d [.ref 1] M (fun r M' => r = none ∧ Q7 M'))
    (e8 : (v2 < 5) → ((M.1 1 4) = 40) → ∀ M8, Q7 M8 → pg_Ev S Λ YX7_readTests d [.ref 1, .ref v1, .int (v2 + 1)] M8 (fun r M' => r = none ∧ Q8 M'))
    (e9 : (v2 < 5) → ((M.1 1 4) = 40) → ∀ M8, Q7 M8 → ∀ M9, Q8 M9 → pg_Ev S Λ YX7_expectSign d [.ref 1, .int 41] M9 (fun r M' => r = none ∧ Q9 M'))
    (k3 : (v2 < 5) → ((M.1 1 4) = 40) → ∀ M8, Q7 M8 → ∀ M9, Q8 M9 → ∀ M10, Q9 M10 → P none M10)
    (e10 : (¬ v2 < 5) → pg_Ev S Λ YX7_fail d [.ref 1, .int 5] M (fun r M' => r = none ∧ Q10 M'))
    (k4 : (¬ v2 < 5) → ∀ M11, Q10 M11 → P none M11) :
    pg_At S Λ YX7_readPart (d + 1) 79 [(0, .ref 1), (1, .ref v1), (2, .int v2), (3, .int v3), (4, .int v4)] [] M P := by
  refine pg_iload_n (pc := 79) (i := 2) (j := 2) (x := v2) dX7_readPart_79 rfl rfl ?_
  refine pg_iconst (pc := 80) (v := 5) dX7_readPart_80 (by decide) ?_
  refine pg_icmp_lt (pc := 81) (tgt := 90) dX7_readPart_81 (by decide) (fun c0 => ?_) (fun c0 => ?_)
  · skip
    refine pg_aload_n (pc := 90) (i := 0) (j := 0) (x := 1) dX7_readPart_90 rfl rfl ?_
    refine gfX7_35 (pc := 91) rfl h0 dX7_readPart_91 ?_
    refine pg_bipush (pc := 94) (v := 40) dX7_readPart_94 (by decide) ?_
    refine pg_icmp_ne (pc := 96) (tgt := 120) dX7_readPart_96 (by decide) (fun c1 => ?_) (fun c1 => ?_)
    · skip
      refine pg_iload (pc := 120) (i := 4) (j := 4) (x := v4) dX7_readPart_120 rfl ?_
      refine pg_if_eq (pc := 122) (tgt := 146) dX7_readPart_122 (by decide) (fun c2 => ?_) (fun c2 => ?_)
      · skip
        refine pg_aload_n (pc := 146) (i := 1) (j := 1) (x := v1) dX7_readPart_146 rfl rfl ?_
        refine pg_iload_n (pc := 147) (i := 3) (j := 3) (x := v3) dX7_readPart_147 rfl rfl ?_
        refine pg_if_eq (pc := 148) (tgt := 163) dX7_readPart_148 (by decide) (fun c3 => ?_) (fun c3 => ?_)
        · skip
          refine pg_aload_n (pc := 163) (i := 0) (j := 0) (x := 1) dX7_readPart_163 rfl rfl ?_
          refine gfX7_194 (pc := 164) rfl h0 dX7_readPart_164 ?_
          refine pg_callV (pc := 167) (As := [.int (M.1 1 5)]) (st := []) okX8_add lkX7_183 rfl h1.1 rfl (Nat.le_refl _) (Nat.le_of_ble_eq_true rfl) (e0 c0 c1 c2 c3) dX7_readPart_167 (fun r1 M1 w1 => ?_)
          obtain ⟨rfl, w1⟩ := w1
          refine pg_aload_n (pc := 170) (i := 0) (j := 0) (x := 1) dX7_readPart_170 rfl rfl ?_
          refine pg_callV (pc := 171) (As := []) (st := []) okX7_next lkX7_52 rfl h0.1 rfl (Nat.le_refl _) (Nat.le_of_ble_eq_true rfl) (e1 c0 c1 c2 c3 M1 w1) dX7_readPart_171 (fun r2 M2 w2 => ?_)
          obtain ⟨rfl, w2⟩ := w2
          exact pg_vret (pc := 174) rfl dX7_readPart_174 (k0 c0 c1 c2 c3 M1 w1 M2 w2)
        · skip
          refine pg_iconst (pc := 151) (v := (-1)) dX7_readPart_151 (by decide) ?_
          refine pg_aload_n (pc := 152) (i := 0) (j := 0) (x := 1) dX7_readPart_152 rfl rfl ?_
          refine gfX7_55 (pc := 153) rfl h0 dX7_readPart_153 ?_
          refine pg_bipush (pc := 156) (v := 23) dX7_readPart_156 (by decide) ?_
          refine pg_isub (pc := 158) dX7_readPart_158 ?_
          refine pg_isub (pc := 159) dX7_readPart_159 ?_
          refine pg_goto (pc := 160) (tgt := 167) dX7_readPart_160 (by decide) ?_
          refine pg_callV (pc := 167) (As := [.int ((-1) - ((M.1 1 7) - 23))]) (st := []) okX8_add lkX7_183 rfl h1.1 rfl (Nat.le_refl _) (Nat.le_of_ble_eq_true rfl) (e2 c0 c1 c2 c3) dX7_readPart_167 (fun r3 M3 w3 => ?_)
          obtain ⟨rfl, w3⟩ := w3
          refine pg_aload_n (pc := 170) (i := 0) (j := 0) (x := 1) dX7_readPart_170 rfl rfl ?_
          refine pg_callV (pc := 171) (As := []) (st := []) okX7_next lkX7_52 rfl h0.1 rfl (Nat.le_refl _) (Nat.le_of_ble_eq_true rfl) (e3 c0 c1 c2 c3 M3 w3) dX7_readPart_171 (fun r4 M4 w4 => ?_)
          obtain ⟨rfl, w4⟩ := w4
          exact pg_vret (pc := 174) rfl dX7_readPart_174 (k1 c0 c1 c2 c3 M3 w3 M4 w4)
      · skip
        refine pg_aload_n (pc := 125) (i := 0) (j := 0) (x := 1) dX7_readPart_125 rfl rfl ?_
        refine pg_callV (pc := 126) (As := []) (st := []) okX7_next lkX7_52 rfl h0.1 rfl (Nat.le_refl _) (Nat.le_of_ble_eq_true rfl) (e4 c0 c1 c2) dX7_readPart_126 (fun r5 M5 w5 => ?_)
        obtain ⟨rfl, w5⟩ := w5
        refine pg_aload_n (pc := 129) (i := 0) (j := 0) (x := 1) dX7_readPart_129 rfl rfl ?_
        refine pg_aload_n (pc := 130) (i := 1) (j := 1) (x := v1) dX7_readPart_130 rfl rfl ?_
        refine pg_iload_n (pc := 131) (i := 2) (j := 2) (x := v2) dX7_readPart_131 rfl rfl ?_
        refine pg_iconst (pc := 132) (v := 1) dX7_readPart_132 (by decide) ?_
        refine pg_iadd (pc := 133) dX7_readPart_133 ?_
        refine pg_callV (pc := 134) (As := [.ref v1, .int (v2 + 1)]) (st := []) okX7_readPart lkX7_191 rfl h0.1 rfl (Nat.le_refl _) (Nat.le_of_ble_eq_true rfl) (e5 c0 c1 c2 M5 w5) dX7_readPart_134 (fun r6 M6 w6 => ?_)
        obtain ⟨rfl, w6⟩ := w6
        refine pg_aload_n (pc := 137) (i := 1) (j := 1) (x := v1) dX7_readPart_137 rfl rfl ?_
        refine pg_bipush (pc := 138) (v := (-4)) dX7_readPart_138 (by decide) ?_
        refine pg_callV (pc := 140) (As := [.int (-4)]) (st := []) okX8_add lkX7_183 rfl h1.1 rfl (Nat.le_refl _) (Nat.le_of_ble_eq_true rfl) (e6 c0 c1 c2 M5 w5 M6 w6) dX7_readPart_140 (fun r7 M7 w7 => ?_)
        obtain ⟨rfl, w7⟩ := w7
        refine pg_goto (pc := 143) (tgt := 174) dX7_readPart_143 (by decide) ?_
        exact pg_vret (pc := 174) rfl dX7_readPart_174 (k2 c0 c1 c2 M5 w5 M6 w6 M7 w7)
    · skip
      refine pg_aload_n (pc := 99) (i := 0) (j := 0) (x := 1) dX7_readPart_99 rfl rfl ?_
      refine pg_callV (pc := 100) (As := []) (st := []) okX7_next lkX7_52 rfl h0.1 rfl (Nat.le_refl _) (Nat.le_of_ble_eq_true rfl) (e7 c0 c1) dX7_readPart_100 (fun r8 M8 w8 => ?_)
      obtain ⟨rfl, w8⟩ := w8
      refine pg_aload_n (pc := 103) (i := 0) (j := 0) (x := 1) dX7_readPart_103 rfl rfl ?_
      refine pg_aload_n (pc := 104) (i := 1) (j := 1) (x := v1) dX7_readPart_104 rfl rfl ?_
      refine pg_iload_n (pc := 105) (i := 2) (j := 2) (x := v2) dX7_readPart_105 rfl rfl ?_
      refine pg_iconst (pc := 106) (v := 1) dX7_readPart_106 (by decide) ?_
      refine pg_iadd (pc := 107) dX7_readPart_107 ?_
      refine pg_callV (pc := 108) (As := [.ref v1, .int (v2 + 1)]) (st := []) okX7_readTests lkX7_159 rfl h0.1 rfl (Nat.le_refl _) (Nat.le_of_ble_eq_true rfl) (e8 c0 c1 M8 w8) dX7_readPart_108 (fun r9 M9 w9 => ?_)
      obtain ⟨rfl, w9⟩ := w9
      refine pg_aload_n (pc := 111) (i := 0) (j := 0) (x := 1) dX7_readPart_111 rfl rfl ?_
      refine pg_bipush (pc := 112) (v := 41) dX7_readPart_112 (by decide) ?_
      refine pg_callV (pc := 114) (As := [.int 41]) (st := []) okX7_expectSign lkX7_72 rfl h0.1 rfl (Nat.le_refl _) (Nat.le_of_ble_eq_true rfl) (e9 c0 c1 M8 w8 M9 w9) dX7_readPart_114 (fun r10 M10 w10 => ?_)
      obtain ⟨rfl, w10⟩ := w10
      refine pg_goto (pc := 117) (tgt := 174) dX7_readPart_117 (by decide) ?_
      exact pg_vret (pc := 174) rfl dX7_readPart_174 (k3 c0 c1 M8 w8 M9 w9 M10 w10)
  · skip
    refine pg_aload_n (pc := 84) (i := 0) (j := 0) (x := 1) dX7_readPart_84 rfl rfl ?_
    refine pg_iconst (pc := 85) (v := 5) dX7_readPart_85 (by decide) ?_
    refine pg_callV (pc := 86) (As := [.int 5]) (st := []) okX7_fail lkX7_68 rfl h0.1 rfl (Nat.le_refl _) (Nat.le_of_ble_eq_true rfl) (e10 c0) dX7_readPart_86 (fun r11 M11 w11 => ?_)
    obtain ⟨rfl, w11⟩ := w11
    exact pg_vret (pc := 89) rfl dX7_readPart_89 (k4 c0 M11 w11)
theorem oX7_readPart {d : Nat} {v1 : Nat} {v2 : Int32} (h : pg_At S Λ YX7_readPart d 0 [(0, .ref 1), (1, .ref v1), (2, .int v2)] [] M P) : pg_Ev S Λ YX7_readPart d [.ref 1, .ref v1, .int v2] M P := pg_Ev.of (by decide) (by first | decide | exact Nat.le_of_ble_eq_true rfl) h
theorem sX7_readNumber_0 {v1 : Int32} {v2 : Int32} {Q0 : Int32 → pg_M → Prop} {Q1 : pg_M → Prop}
    (h0 : pg_isX7 Λ)
    (e0 : pg_Ev S Λ YX7_numberHere d [.ref 1, .int v1, .int v2] M (fun r M' => ∃ x, r = some (.int x) ∧ Q0 x M'))
    (e1 : ∀ x1 M1, Q0 x1 M1 → pg_Ev S Λ YX7_next d [.ref 1] M1 (fun r M' => r = none ∧ Q1 M'))
    (k0 : ∀ x1 M1, Q0 x1 M1 → ∀ M2, Q1 M2 → P (some (.int x1)) M2) :
    pg_At S Λ YX7_readNumber (d + 1) 0 [(0, .ref 1), (1, .int v1), (2, .int v2)] [] M P := by
  refine pg_aload_n (pc := 0) (i := 0) (j := 0) (x := 1) dX7_readNumber_0 rfl rfl ?_
  refine pg_iload_n (pc := 1) (i := 1) (j := 1) (x := v1) dX7_readNumber_1 rfl rfl ?_
  refine pg_iload_n (pc := 2) (i := 2) (j := 2) (x := v2) dX7_readNumber_2 rfl rfl ?_
  refine pg_callV (pc := 3) (As := [.int v1, .int v2]) (st := []) okX7_numberHere lkX7_166 rfl h0.1 rfl (Nat.le_refl _) (Nat.le_of_ble_eq_true rfl) e0 dX7_readNumber_3 (fun r1 M1 w1 => ?_)
  obtain ⟨x1, rfl, w1⟩ := w1
  refine pg_istore_n (pc := 6) (i := 3) (ls' := [(3, .int x1), (0, .ref 1), (1, .int v1), (2, .int v2)]) dX7_readNumber_6 rfl (by decide) rfl ?_
  refine pg_aload_n (pc := 7) (i := 0) (j := 1) (x := 1) dX7_readNumber_7 rfl rfl ?_
  refine pg_callV (pc := 8) (As := []) (st := []) okX7_next lkX7_52 rfl h0.1 rfl (Nat.le_refl _) (Nat.le_of_ble_eq_true rfl) (e1 x1 M1 w1) dX7_readNumber_8 (fun r2 M2 w2 => ?_)
  obtain ⟨rfl, w2⟩ := w2
  refine pg_iload_n (pc := 11) (i := 3) (j := 0) (x := x1) dX7_readNumber_11 rfl rfl ?_
  exact pg_iret (pc := 12) rfl dX7_readNumber_12 (k0 x1 M1 w1 M2 w2)
theorem oX7_readNumber {d : Nat} {v1 : Int32} {v2 : Int32} (h : pg_At S Λ YX7_readNumber d 0 [(0, .ref 1), (1, .int v1), (2, .int v2)] [] M P) : pg_Ev S Λ YX7_readNumber d [.ref 1, .int v1, .int v2] M P := pg_Ev.of (by decide) (by first | decide | exact Nat.le_of_ble_eq_true rfl) h
theorem sX7_numberHere_0 {v1 : Int32} {v2 : Int32} {Q0 : pg_M → Prop} {Q1 : pg_M → Prop} {Q2 : pg_M → Prop}
    (h0 : pg_isX7 Λ)
    (e0 : ((M.1 1 4) = 3) → ((M.1 1 5) < v1) → pg_Ev S Λ YX7_fail d [.ref 1, .int 4] M (fun r M' => r = none ∧ Q0 M'))
    (k0 : ((M.1 1 4) = 3) → ((M.1 1 5) < v1) → ∀ M1, Q0 M1 → (¬ (M1.1 1 9) = 0) → P (some (.int v1)) M1)
    (k1 : ((M.1 1 4) = 3) → ((M.1 1 5) < v1) → ∀ M1, Q0 M1 → ((M1.1 1 9) = 0) → P (some (.int (M1.1 1 5))) M1)
    (k2 : ((M.1 1 4) = 3) → (¬ (M.1 1 5) < v1) → ((M.1 1 5) ≤ v2) → (¬ (M.1 1 9) = 0) → P (some (.int v1)) M)
    (k3 : ((M.1 1 4) = 3) → (¬ (M.1 1 5) < v1) → ((M.1 1 5) ≤ v2) → ((M.1 1 9) = 0) → P (some (.int (M.1 1 5))) M)
    (e1 : ((M.1 1 4) = 3) → (¬ (M.1 1 5) < v1) → (¬ (M.1 1 5) ≤ v2) → pg_Ev S Λ YX7_fail d [.ref 1, .int 4] M (fun r M' => r = none ∧ Q1 M'))
    (k4 : ((M.1 1 4) = 3) → (¬ (M.1 1 5) < v1) → (¬ (M.1 1 5) ≤ v2) → ∀ M2, Q1 M2 → (¬ (M2.1 1 9) = 0) → P (some (.int v1)) M2)
    (k5 : ((M.1 1 4) = 3) → (¬ (M.1 1 5) < v1) → (¬ (M.1 1 5) ≤ v2) → ∀ M2, Q1 M2 → ((M2.1 1 9) = 0) → P (some (.int (M2.1 1 5))) M2)
    (e2 : (¬ (M.1 1 4) = 3) → pg_Ev S Λ YX7_fail d [.ref 1, .int 1] M (fun r M' => r = none ∧ Q2 M'))
    (k6 : (¬ (M.1 1 4) = 3) → ∀ M3, Q2 M3 → (¬ (M3.1 1 9) = 0) → P (some (.int v1)) M3)
    (k7 : (¬ (M.1 1 4) = 3) → ∀ M3, Q2 M3 → ((M3.1 1 9) = 0) → P (some (.int (M3.1 1 5))) M3) :
    pg_At S Λ YX7_numberHere (d + 1) 0 [(0, .ref 1), (1, .int v1), (2, .int v2)] [] M P := by
  refine pg_aload_n (pc := 0) (i := 0) (j := 0) (x := 1) dX7_numberHere_0 rfl rfl ?_
  refine gfX7_35 (pc := 1) rfl h0 dX7_numberHere_1 ?_
  refine pg_iconst (pc := 4) (v := 3) dX7_numberHere_4 (by decide) ?_
  refine pg_icmp_eq (pc := 5) (tgt := 16) dX7_numberHere_5 (by decide) (fun c0 => ?_) (fun c0 => ?_)
  · skip
    refine pg_aload_n (pc := 16) (i := 0) (j := 0) (x := 1) dX7_numberHere_16 rfl rfl ?_
    refine gfX7_194 (pc := 17) rfl h0 dX7_numberHere_17 ?_
    refine pg_iload_n (pc := 20) (i := 1) (j := 1) (x := v1) dX7_numberHere_20 rfl rfl ?_
    refine pg_icmp_lt (pc := 21) (tgt := 32) dX7_numberHere_21 (by decide) (fun c1 => ?_) (fun c1 => ?_)
    · skip
      refine pg_aload_n (pc := 32) (i := 0) (j := 0) (x := 1) dX7_numberHere_32 rfl rfl ?_
      refine pg_iconst (pc := 33) (v := 4) dX7_numberHere_33 (by decide) ?_
      refine pg_callV (pc := 34) (As := [.int 4]) (st := []) okX7_fail lkX7_68 rfl h0.1 rfl (Nat.le_refl _) (Nat.le_of_ble_eq_true rfl) (e0 c0 c1) dX7_numberHere_34 (fun r1 M1 w1 => ?_)
      obtain ⟨rfl, w1⟩ := w1
      refine pg_aload_n (pc := 37) (i := 0) (j := 0) (x := 1) dX7_numberHere_37 rfl rfl ?_
      refine gfX7_32 (pc := 38) rfl h0 dX7_numberHere_38 ?_
      refine pg_if_ne (pc := 41) (tgt := 51) dX7_numberHere_41 (by decide) (fun c2 => ?_) (fun c2 => ?_)
      · skip
        refine pg_iload_n (pc := 51) (i := 1) (j := 1) (x := v1) dX7_numberHere_51 rfl rfl ?_
        exact pg_iret (pc := 52) rfl dX7_numberHere_52 (k0 c0 c1 M1 w1 c2)
      · skip
        refine pg_aload_n (pc := 44) (i := 0) (j := 0) (x := 1) dX7_numberHere_44 rfl rfl ?_
        refine gfX7_194 (pc := 45) rfl h0 dX7_numberHere_45 ?_
        refine pg_goto (pc := 48) (tgt := 52) dX7_numberHere_48 (by decide) ?_
        exact pg_iret (pc := 52) rfl dX7_numberHere_52 (k1 c0 c1 M1 w1 c2)
    · skip
      refine pg_aload_n (pc := 24) (i := 0) (j := 0) (x := 1) dX7_numberHere_24 rfl rfl ?_
      refine gfX7_194 (pc := 25) rfl h0 dX7_numberHere_25 ?_
      refine pg_iload_n (pc := 28) (i := 2) (j := 2) (x := v2) dX7_numberHere_28 rfl rfl ?_
      refine pg_icmp_le (pc := 29) (tgt := 37) dX7_numberHere_29 (by decide) (fun c2 => ?_) (fun c2 => ?_)
      · skip
        refine pg_aload_n (pc := 37) (i := 0) (j := 0) (x := 1) dX7_numberHere_37 rfl rfl ?_
        refine gfX7_32 (pc := 38) rfl h0 dX7_numberHere_38 ?_
        refine pg_if_ne (pc := 41) (tgt := 51) dX7_numberHere_41 (by decide) (fun c3 => ?_) (fun c3 => ?_)
        · skip
          refine pg_iload_n (pc := 51) (i := 1) (j := 1) (x := v1) dX7_numberHere_51 rfl rfl ?_
          exact pg_iret (pc := 52) rfl dX7_numberHere_52 (k2 c0 c1 c2 c3)
        · skip
          refine pg_aload_n (pc := 44) (i := 0) (j := 0) (x := 1) dX7_numberHere_44 rfl rfl ?_
          refine gfX7_194 (pc := 45) rfl h0 dX7_numberHere_45 ?_
          refine pg_goto (pc := 48) (tgt := 52) dX7_numberHere_48 (by decide) ?_
          exact pg_iret (pc := 52) rfl dX7_numberHere_52 (k3 c0 c1 c2 c3)
      · skip
        refine pg_aload_n (pc := 32) (i := 0) (j := 0) (x := 1) dX7_numberHere_32 rfl rfl ?_
        refine pg_iconst (pc := 33) (v := 4) dX7_numberHere_33 (by decide) ?_
        refine pg_callV (pc := 34) (As := [.int 4]) (st := []) okX7_fail lkX7_68 rfl h0.1 rfl (Nat.le_refl _) (Nat.le_of_ble_eq_true rfl) (e1 c0 c1 c2) dX7_numberHere_34 (fun r2 M2 w2 => ?_)
        obtain ⟨rfl, w2⟩ := w2
        refine pg_aload_n (pc := 37) (i := 0) (j := 0) (x := 1) dX7_numberHere_37 rfl rfl ?_
        refine gfX7_32 (pc := 38) rfl h0 dX7_numberHere_38 ?_
        refine pg_if_ne (pc := 41) (tgt := 51) dX7_numberHere_41 (by decide) (fun c3 => ?_) (fun c3 => ?_)
        · skip
          refine pg_iload_n (pc := 51) (i := 1) (j := 1) (x := v1) dX7_numberHere_51 rfl rfl ?_
          exact pg_iret (pc := 52) rfl dX7_numberHere_52 (k4 c0 c1 c2 M2 w2 c3)
        · skip
          refine pg_aload_n (pc := 44) (i := 0) (j := 0) (x := 1) dX7_numberHere_44 rfl rfl ?_
          refine gfX7_194 (pc := 45) rfl h0 dX7_numberHere_45 ?_
          refine pg_goto (pc := 48) (tgt := 52) dX7_numberHere_48 (by decide) ?_
          exact pg_iret (pc := 52) rfl dX7_numberHere_52 (k5 c0 c1 c2 M2 w2 c3)
  · skip
    refine pg_aload_n (pc := 8) (i := 0) (j := 0) (x := 1) dX7_numberHere_8 rfl rfl ?_
    refine pg_iconst (pc := 9) (v := 1) dX7_numberHere_9 (by decide) ?_
    refine pg_callV (pc := 10) (As := [.int 1]) (st := []) okX7_fail lkX7_68 rfl h0.1 rfl (Nat.le_refl _) (Nat.le_of_ble_eq_true rfl) (e2 c0) dX7_numberHere_10 (fun r3 M3 w3 => ?_)
    obtain ⟨rfl, w3⟩ := w3
    refine pg_goto (pc := 13) (tgt := 37) dX7_numberHere_13 (by decide) ?_
    refine pg_aload_n (pc := 37) (i := 0) (j := 0) (x := 1) dX7_numberHere_37 rfl rfl ?_
    refine gfX7_32 (pc := 38) rfl h0 dX7_numberHere_38 ?_
    refine pg_if_ne (pc := 41) (tgt := 51) dX7_numberHere_41 (by decide) (fun c1 => ?_) (fun c1 => ?_)
    · skip
      refine pg_iload_n (pc := 51) (i := 1) (j := 1) (x := v1) dX7_numberHere_51 rfl rfl ?_
      exact pg_iret (pc := 52) rfl dX7_numberHere_52 (k6 c0 M3 w3 c1)
    · skip
      refine pg_aload_n (pc := 44) (i := 0) (j := 0) (x := 1) dX7_numberHere_44 rfl rfl ?_
      refine gfX7_194 (pc := 45) rfl h0 dX7_numberHere_45 ?_
      refine pg_goto (pc := 48) (tgt := 52) dX7_numberHere_48 (by decide) ?_
      exact pg_iret (pc := 52) rfl dX7_numberHere_52 (k7 c0 M3 w3 c1)
theorem oX7_numberHere {d : Nat} {v1 : Int32} {v2 : Int32} (h : pg_At S Λ YX7_numberHere d 0 [(0, .ref 1), (1, .int v1), (2, .int v2)] [] M P) : pg_Ev S Λ YX7_numberHere d [.ref 1, .int v1, .int v2] M P := pg_Ev.of (by decide) (by first | decide | exact Nat.le_of_ble_eq_true rfl) h
theorem sX7_readNamed_0 {v1 : Nat} {Q0 : Int32 → pg_M → Prop} {Q1 : pg_M → Prop}
    (h0 : pg_isX7 Λ)
    (e0 : pg_Ev S Λ YX7_namedHere d [.ref 1, .ref v1] M (fun r M' => ∃ x, r = some (.int x) ∧ Q0 x M'))
    (e1 : ∀ x1 M1, Q0 x1 M1 → pg_Ev S Λ YX7_next d [.ref 1] M1 (fun r M' => r = none ∧ Q1 M'))
    (k0 : ∀ x1 M1, Q0 x1 M1 → ∀ M2, Q1 M2 → P (some (.int x1)) M2) :
    pg_At S Λ YX7_readNamed (d + 1) 0 [(0, .ref 1), (1, .ref v1)] [] M P := by
  refine pg_aload_n (pc := 0) (i := 0) (j := 0) (x := 1) dX7_readNamed_0 rfl rfl ?_
  refine pg_aload_n (pc := 1) (i := 1) (j := 1) (x := v1) dX7_readNamed_1 rfl rfl ?_
  refine pg_callV (pc := 2) (As := [.ref v1]) (st := []) okX7_namedHere lkX7_119 rfl h0.1 rfl (Nat.le_refl _) (Nat.le_of_ble_eq_true rfl) e0 dX7_readNamed_2 (fun r1 M1 w1 => ?_)
  obtain ⟨x1, rfl, w1⟩ := w1
  refine pg_istore_n (pc := 5) (i := 2) (ls' := [(2, .int x1), (0, .ref 1), (1, .ref v1)]) dX7_readNamed_5 rfl (by decide) rfl ?_
  refine pg_aload_n (pc := 6) (i := 0) (j := 1) (x := 1) dX7_readNamed_6 rfl rfl ?_
  refine pg_callV (pc := 7) (As := []) (st := []) okX7_next lkX7_52 rfl h0.1 rfl (Nat.le_refl _) (Nat.le_of_ble_eq_true rfl) (e1 x1 M1 w1) dX7_readNamed_7 (fun r2 M2 w2 => ?_)
  obtain ⟨rfl, w2⟩ := w2
  refine pg_iload_n (pc := 10) (i := 2) (j := 0) (x := x1) dX7_readNamed_10 rfl rfl ?_
  exact pg_iret (pc := 11) rfl dX7_readNamed_11 (k0 x1 M1 w1 M2 w2)
theorem oX7_readNamed {d : Nat} {v1 : Nat} (h : pg_At S Λ YX7_readNamed d 0 [(0, .ref 1), (1, .ref v1)] [] M P) : pg_Ev S Λ YX7_readNamed d [.ref 1, .ref v1] M P := pg_Ev.of (by decide) (by first | decide | exact Nat.le_of_ble_eq_true rfl) h
theorem sX7_namedHere_0 {v1 : Nat} {Q0 : Int32 → pg_M → Prop} {Q1 : Int32 → pg_M → Prop} {Q2 : pg_M → Prop} {Q3 : pg_M → Prop}
    (h0 : pg_isX7 Λ)
    (h1 : pg_isX5 Λ v1)
    (e0 : pg_Ev S Λ YX7_isName d [.ref 1] M (fun r M' => ∃ x, r = some (.int x) ∧ Q0 x M'))
    (e1 : ∀ x1 M1, Q0 x1 M1 → (¬ x1 = 0) → pg_Ev S Λ YX5_clothNamed d [.ref v1, .long (M1.2.1 1 6)] M1 (fun r M' => ∃ x, r = some (.int x) ∧ Q1 x M'))
    (k0 : ∀ x1 M1, Q0 x1 M1 → (¬ x1 = 0) → ∀ x2 M2, Q1 x2 M2 → (¬ x2 = (-1)) → P (some (.int x2)) M2)
    (e2 : ∀ x1 M1, Q0 x1 M1 → (¬ x1 = 0) → ∀ x2 M2, Q1 x2 M2 → (x2 = (-1)) → pg_Ev S Λ YX7_fail d [.ref 1, .int 2] M2 (fun r M' => r = none ∧ Q2 M'))
    (k1 : ∀ x1 M1, Q0 x1 M1 → (¬ x1 = 0) → ∀ x2 M2, Q1 x2 M2 → (x2 = (-1)) → ∀ M3, Q2 M3 → P (some (.int x2)) M3)
    (e3 : ∀ x1 M1, Q0 x1 M1 → (x1 = 0) → pg_Ev S Λ YX7_fail d [.ref 1, .int 1] M1 (fun r M' => r = none ∧ Q3 M'))
    (k2 : ∀ x1 M1, Q0 x1 M1 → (x1 = 0) → ∀ M4, Q3 M4 → P (some (.int (-1))) M4) :
    pg_At S Λ YX7_namedHere (d + 1) 0 [(0, .ref 1), (1, .ref v1)] [] M P := by
  refine pg_aload_n (pc := 0) (i := 0) (j := 0) (x := 1) dX7_namedHere_0 rfl rfl ?_
  refine pg_callV (pc := 1) (As := []) (st := []) okX7_isName lkX7_78 rfl h0.1 rfl (Nat.le_refl _) (Nat.le_of_ble_eq_true rfl) e0 dX7_namedHere_1 (fun r1 M1 w1 => ?_)
  obtain ⟨x1, rfl, w1⟩ := w1
  refine pg_if_ne (pc := 4) (tgt := 14) dX7_namedHere_4 (by decide) (fun c0 => ?_) (fun c0 => ?_)
  · skip
    refine pg_aload_n (pc := 14) (i := 1) (j := 1) (x := v1) dX7_namedHere_14 rfl rfl ?_
    refine pg_aload_n (pc := 15) (i := 0) (j := 0) (x := 1) dX7_namedHere_15 rfl rfl ?_
    refine gfX7_82 (pc := 16) rfl h0 dX7_namedHere_16 ?_
    refine pg_callV (pc := 19) (As := [.long (M1.2.1 1 6)]) (st := []) okX5_clothNamed lkX7_86 rfl h1.1 rfl (Nat.le_refl _) (Nat.le_of_ble_eq_true rfl) (e1 x1 M1 w1 c0) dX7_namedHere_19 (fun r2 M2 w2 => ?_)
    obtain ⟨x2, rfl, w2⟩ := w2
    refine pg_istore_n (pc := 22) (i := 2) (ls' := [(2, .int x2), (0, .ref 1), (1, .ref v1)]) dX7_namedHere_22 rfl (by decide) rfl ?_
    refine pg_iload_n (pc := 23) (i := 2) (j := 0) (x := x2) dX7_namedHere_23 rfl rfl ?_
    refine pg_iconst (pc := 24) (v := (-1)) dX7_namedHere_24 (by decide) ?_
    refine pg_icmp_ne (pc := 25) (tgt := 33) dX7_namedHere_25 (by decide) (fun c1 => ?_) (fun c1 => ?_)
    · skip
      refine pg_iload_n (pc := 33) (i := 2) (j := 0) (x := x2) dX7_namedHere_33 rfl rfl ?_
      exact pg_iret (pc := 34) rfl dX7_namedHere_34 (k0 x1 M1 w1 c0 x2 M2 w2 c1)
    · skip
      refine pg_aload_n (pc := 28) (i := 0) (j := 1) (x := 1) dX7_namedHere_28 rfl rfl ?_
      refine pg_iconst (pc := 29) (v := 2) dX7_namedHere_29 (by decide) ?_
      refine pg_callV (pc := 30) (As := [.int 2]) (st := []) okX7_fail lkX7_68 rfl h0.1 rfl (Nat.le_refl _) (Nat.le_of_ble_eq_true rfl) (e2 x1 M1 w1 c0 x2 M2 w2 c1) dX7_namedHere_30 (fun r3 M3 w3 => ?_)
      obtain ⟨rfl, w3⟩ := w3
      refine pg_iload_n (pc := 33) (i := 2) (j := 0) (x := x2) dX7_namedHere_33 rfl rfl ?_
      exact pg_iret (pc := 34) rfl dX7_namedHere_34 (k1 x1 M1 w1 c0 x2 M2 w2 c1 M3 w3)
  · skip
    refine pg_aload_n (pc := 7) (i := 0) (j := 0) (x := 1) dX7_namedHere_7 rfl rfl ?_
    refine pg_iconst (pc := 8) (v := 1) dX7_namedHere_8 (by decide) ?_
    refine pg_callV (pc := 9) (As := [.int 1]) (st := []) okX7_fail lkX7_68 rfl h0.1 rfl (Nat.le_refl _) (Nat.le_of_ble_eq_true rfl) (e3 x1 M1 w1 c0) dX7_namedHere_9 (fun r4 M4 w4 => ?_)
    obtain ⟨rfl, w4⟩ := w4
    refine pg_iconst (pc := 12) (v := (-1)) dX7_namedHere_12 (by decide) ?_
    exact pg_iret (pc := 13) rfl dX7_namedHere_13 (k2 x1 M1 w1 c0 M4 w4)
theorem oX7_namedHere {d : Nat} {v1 : Nat} (h : pg_At S Λ YX7_namedHere d 0 [(0, .ref 1), (1, .ref v1)] [] M P) : pg_Ev S Λ YX7_namedHere d [.ref 1, .ref v1] M P := pg_Ev.of (by decide) (by first | decide | exact Nat.le_of_ble_eq_true rfl) h
theorem sX7_isName_0  
    (h0 : pg_isX7 Λ)
    (k0 : (¬ (M.1 1 4) = 2) → P (some (.int 0)) M)
    (k1 : ((M.1 1 4) = 2) → ((M.1 1 7) = (-1)) → P (some (.int 1)) M)
    (k2 : ((M.1 1 4) = 2) → (¬ (M.1 1 7) = (-1)) → ((M.1 1 7) < 23) → P (some (.int 0)) M)
    (k3 : ((M.1 1 4) = 2) → (¬ (M.1 1 7) = (-1)) → (¬ (M.1 1 7) < 23) → P (some (.int 1)) M) :
    pg_At S Λ YX7_isName d 0 [(0, .ref 1)] [] M P := by
  refine pg_aload_n (pc := 0) (i := 0) (j := 0) (x := 1) dX7_isName_0 rfl rfl ?_
  refine gfX7_35 (pc := 1) rfl h0 dX7_isName_1 ?_
  refine pg_iconst (pc := 4) (v := 2) dX7_isName_4 (by decide) ?_
  refine pg_icmp_ne (pc := 5) (tgt := 29) dX7_isName_5 (by decide) (fun c0 => ?_) (fun c0 => ?_)
  · skip
    refine pg_iconst (pc := 29) (v := 0) dX7_isName_29 (by decide) ?_
    exact pg_zret (pc := 30) rfl rfl dX7_isName_30 (k0 c0)
  · skip
    refine pg_aload_n (pc := 8) (i := 0) (j := 0) (x := 1) dX7_isName_8 rfl rfl ?_
    refine gfX7_55 (pc := 9) rfl h0 dX7_isName_9 ?_
    refine pg_iconst (pc := 12) (v := (-1)) dX7_isName_12 (by decide) ?_
    refine pg_icmp_eq (pc := 13) (tgt := 25) dX7_isName_13 (by decide) (fun c1 => ?_) (fun c1 => ?_)
    · skip
      refine pg_iconst (pc := 25) (v := 1) dX7_isName_25 (by decide) ?_
      refine pg_goto (pc := 26) (tgt := 30) dX7_isName_26 (by decide) ?_
      exact pg_zret (pc := 30) rfl rfl dX7_isName_30 (k1 c0 c1)
    · skip
      refine pg_aload_n (pc := 16) (i := 0) (j := 0) (x := 1) dX7_isName_16 rfl rfl ?_
      refine gfX7_55 (pc := 17) rfl h0 dX7_isName_17 ?_
      refine pg_bipush (pc := 20) (v := 23) dX7_isName_20 (by decide) ?_
      refine pg_icmp_lt (pc := 22) (tgt := 29) dX7_isName_22 (by decide) (fun c2 => ?_) (fun c2 => ?_)
      · skip
        refine pg_iconst (pc := 29) (v := 0) dX7_isName_29 (by decide) ?_
        exact pg_zret (pc := 30) rfl rfl dX7_isName_30 (k2 c0 c1 c2)
      · skip
        refine pg_iconst (pc := 25) (v := 1) dX7_isName_25 (by decide) ?_
        refine pg_goto (pc := 26) (tgt := 30) dX7_isName_26 (by decide) ?_
        exact pg_zret (pc := 30) rfl rfl dX7_isName_30 (k3 c0 c1 c2)
theorem oX7_isName {d : Nat}  (h : pg_At S Λ YX7_isName d 0 [(0, .ref 1)] [] M P) : pg_Ev S Λ YX7_isName d [.ref 1] M P := pg_Ev.of (by decide) (by first | decide | exact Nat.le_of_ble_eq_true rfl) h
theorem sX7_expectSign_0 {v1 : Int32} {Q0 : pg_M → Prop} {Q1 : pg_M → Prop} {Q2 : pg_M → Prop}
    (h0 : pg_isX7 Λ)
    (e0 : ((M.1 1 4) = v1) → pg_Ev S Λ YX7_next d [.ref 1] M (fun r M' => r = none ∧ Q0 M'))
    (k0 : ((M.1 1 4) = v1) → ∀ M1, Q0 M1 → P none M1)
    (e1 : (¬ (M.1 1 4) = v1) → pg_Ev S Λ YX7_fail d [.ref 1, .int 1] M (fun r M' => r = none ∧ Q1 M'))
    (e2 : (¬ (M.1 1 4) = v1) → ∀ M2, Q1 M2 → pg_Ev S Λ YX7_next d [.ref 1] M2 (fun r M' => r = none ∧ Q2 M'))
    (k1 : (¬ (M.1 1 4) = v1) → ∀ M2, Q1 M2 → ∀ M3, Q2 M3 → P none M3) :
    pg_At S Λ YX7_expectSign (d + 1) 0 [(0, .ref 1), (1, .int v1)] [] M P := by
  refine pg_aload_n (pc := 0) (i := 0) (j := 0) (x := 1) dX7_expectSign_0 rfl rfl ?_
  refine gfX7_35 (pc := 1) rfl h0 dX7_expectSign_1 ?_
  refine pg_iload_n (pc := 4) (i := 1) (j := 1) (x := v1) dX7_expectSign_4 rfl rfl ?_
  refine pg_icmp_eq (pc := 5) (tgt := 13) dX7_expectSign_5 (by decide) (fun c0 => ?_) (fun c0 => ?_)
  · skip
    refine pg_aload_n (pc := 13) (i := 0) (j := 0) (x := 1) dX7_expectSign_13 rfl rfl ?_
    refine pg_callV (pc := 14) (As := []) (st := []) okX7_next lkX7_52 rfl h0.1 rfl (Nat.le_refl _) (Nat.le_of_ble_eq_true rfl) (e0 c0) dX7_expectSign_14 (fun r1 M1 w1 => ?_)
    obtain ⟨rfl, w1⟩ := w1
    exact pg_vret (pc := 17) rfl dX7_expectSign_17 (k0 c0 M1 w1)
  · skip
    refine pg_aload_n (pc := 8) (i := 0) (j := 0) (x := 1) dX7_expectSign_8 rfl rfl ?_
    refine pg_iconst (pc := 9) (v := 1) dX7_expectSign_9 (by decide) ?_
    refine pg_callV (pc := 10) (As := [.int 1]) (st := []) okX7_fail lkX7_68 rfl h0.1 rfl (Nat.le_refl _) (Nat.le_of_ble_eq_true rfl) (e1 c0) dX7_expectSign_10 (fun r2 M2 w2 => ?_)
    obtain ⟨rfl, w2⟩ := w2
    refine pg_aload_n (pc := 13) (i := 0) (j := 0) (x := 1) dX7_expectSign_13 rfl rfl ?_
    refine pg_callV (pc := 14) (As := []) (st := []) okX7_next lkX7_52 rfl h0.1 rfl (Nat.le_refl _) (Nat.le_of_ble_eq_true rfl) (e2 c0 M2 w2) dX7_expectSign_14 (fun r3 M3 w3 => ?_)
    obtain ⟨rfl, w3⟩ := w3
    exact pg_vret (pc := 17) rfl dX7_expectSign_17 (k1 c0 M2 w2 M3 w3)
theorem oX7_expectSign {d : Nat} {v1 : Int32} (h : pg_At S Λ YX7_expectSign d 0 [(0, .ref 1), (1, .int v1)] [] M P) : pg_Ev S Λ YX7_expectSign d [.ref 1, .int v1] M P := pg_Ev.of (by decide) (by first | decide | exact Nat.le_of_ble_eq_true rfl) h
theorem sX7_fail_0 {v1 : Int32} 
    (h0 : pg_isX7 Λ)
    (k0 : (¬ (M.1 1 9) = 0) → P none M)
    (k1 : ((M.1 1 9) = 0) → P none (pg_si M 1 9 (v1 + (16 * (M.1 1 2))))) :
    pg_At S Λ YX7_fail d 0 [(0, .ref 1), (1, .int v1)] [] M P := by
  refine pg_aload_n (pc := 0) (i := 0) (j := 0) (x := 1) dX7_fail_0 rfl rfl ?_
  refine gfX7_32 (pc := 1) rfl h0 dX7_fail_1 ?_
  refine pg_if_ne (pc := 4) (tgt := 20) dX7_fail_4 (by decide) (fun c0 => ?_) (fun c0 => ?_)
  · skip
    exact pg_vret (pc := 20) rfl dX7_fail_20 (k0 c0)
  · skip
    refine pg_aload_n (pc := 7) (i := 0) (j := 0) (x := 1) dX7_fail_7 rfl rfl ?_
    refine pg_iload_n (pc := 8) (i := 1) (j := 1) (x := v1) dX7_fail_8 rfl rfl ?_
    refine pg_bipush (pc := 9) (v := 16) dX7_fail_9 (by decide) ?_
    refine pg_aload_n (pc := 11) (i := 0) (j := 0) (x := 1) dX7_fail_11 rfl rfl ?_
    refine gfX7_197 (pc := 12) rfl h0 dX7_fail_12 ?_
    refine pg_imul (pc := 15) dX7_fail_15 ?_
    refine pg_iadd (pc := 16) dX7_fail_16 ?_
    refine pfX7_32 (pc := 17) rfl h0 dX7_fail_17 ?_
    exact pg_vret (pc := 20) rfl dX7_fail_20 (k1 c0)
theorem oX7_fail {d : Nat} {v1 : Int32} (h : pg_At S Λ YX7_fail d 0 [(0, .ref 1), (1, .int v1)] [] M P) : pg_Ev S Λ YX7_fail d [.ref 1, .int v1] M P := pg_Ev.of (by decide) (by first | decide | exact Nat.le_of_ble_eq_true rfl) h
theorem sX7_next_0  
    (h0 : pg_isX7 Λ)
    (k0 : ((M.1 1 9) = 0) → pg_At S Λ YX7_next (d + 1) 21 [(0, .ref 1), (1, .int ((pg_si M 1 2 (M.1 1 3)).1 1 3))] [] (pg_si M 1 2 (M.1 1 3)) P)
    (k1 : (¬ (M.1 1 9) = 0) → P none M) :
    pg_At S Λ YX7_next (d + 1) 0 [(0, .ref 1)] [] M P := by
  refine pg_aload_n (pc := 0) (i := 0) (j := 0) (x := 1) dX7_next_0 rfl rfl ?_
  refine gfX7_32 (pc := 1) rfl h0 dX7_next_1 ?_
  refine pg_if_eq (pc := 4) (tgt := 8) dX7_next_4 (by decide) (fun c0 => ?_) (fun c0 => ?_)
  · skip
    refine pg_aload_n (pc := 8) (i := 0) (j := 0) (x := 1) dX7_next_8 rfl rfl ?_
    refine pg_aload_n (pc := 9) (i := 0) (j := 0) (x := 1) dX7_next_9 rfl rfl ?_
    refine gfX7_49 (pc := 10) rfl h0 dX7_next_10 ?_
    refine pfX7_197 (pc := 13) rfl h0 dX7_next_13 ?_
    refine pg_aload_n (pc := 16) (i := 0) (j := 0) (x := 1) dX7_next_16 rfl rfl ?_
    refine gfX7_49 (pc := 17) rfl h0 dX7_next_17 ?_
    refine pg_istore_n (pc := 20) (i := 1) (ls' := [(1, .int ((pg_si M 1 2 (M.1 1 3)).1 1 3)), (0, .ref 1)]) dX7_next_20 rfl (by decide) rfl ?_
    refine pg_drop (ks := [1, 0]) (ls' := [(0, .ref 1), (1, .int ((pg_si M 1 2 (M.1 1 3)).1 1 3))]) rfl ?_
    exact k0 c0
  · skip
    exact pg_vret (pc := 7) rfl dX7_next_7 (k1 c0)
theorem sX7_next_21 {v1 : Int32} 
    (h0 : pg_isX7 Λ)
    (k0 : ((M.1 1 1) ≤ v1) → pg_At S Λ YX7_next (d + 1) 76 [(0, .ref 1), (1, .int 0), (2, .int ((pg_sj M 1 6 0).1 1 2))] [] (pg_sj M 1 6 0) P)
    (b0 : (¬ (M.1 1 1) ≤ v1) → vp_in v1 1000)
    (k1 : (¬ (M.1 1 1) ≤ v1) → ((M.1 2 v1.toNatClampNeg) = 10) → pg_At S Λ YX7_next (d + 1) 21 [(0, .ref 1), (1, .int (v1 + 1))] [] (pg_si M 1 2 (v1 + 1)) P)
    (k2 : (¬ (M.1 1 1) ≤ v1) → (¬ (M.1 2 v1.toNatClampNeg) = 10) → (¬ (M.1 2 v1.toNatClampNeg) = 32) → pg_At S Λ YX7_next (d + 1) 76 [(0, .ref 1), (1, .int 0), (2, .int ((pg_sj M 1 6 0).1 1 2))] [] (pg_sj M 1 6 0) P)
    (k3 : (¬ (M.1 1 1) ≤ v1) → (¬ (M.1 2 v1.toNatClampNeg) = 10) → ((M.1 2 v1.toNatClampNeg) = 32) → pg_At S Λ YX7_next (d + 1) 21 [(0, .ref 1), (1, .int (v1 + 1))] [] (pg_si M 1 2 (v1 + 1)) P) :
    pg_At S Λ YX7_next (d + 1) 21 [(0, .ref 1), (1, .int v1)] [] M P := by
  refine pg_iload_n (pc := 21) (i := 1) (j := 1) (x := v1) dX7_next_21 rfl rfl ?_
  refine pg_aload_n (pc := 22) (i := 0) (j := 0) (x := 1) dX7_next_22 rfl rfl ?_
  refine gfX7_17 (pc := 23) rfl h0 dX7_next_23 ?_
  refine pg_icmp_ge (pc := 26) (tgt := 64) dX7_next_26 (by decide) (fun c0 => ?_) (fun c0 => ?_)
  · skip
    refine pg_iconst (pc := 64) (v := 0) dX7_next_64 (by decide) ?_
    refine pg_istore_n (pc := 65) (i := 1) (ls' := [(1, .int 0), (0, .ref 1)]) dX7_next_65 rfl (by decide) rfl ?_
    refine pg_aload_n (pc := 66) (i := 0) (j := 1) (x := 1) dX7_next_66 rfl rfl ?_
    refine pg_lconst (pc := 67) (v := 0) dX7_next_67 (by decide) ?_
    refine pfX7_82 (pc := 68) rfl h0 dX7_next_68 ?_
    refine pg_aload_n (pc := 71) (i := 0) (j := 1) (x := 1) dX7_next_71 rfl rfl ?_
    refine gfX7_197 (pc := 72) rfl h0 dX7_next_72 ?_
    refine pg_istore_n (pc := 75) (i := 2) (ls' := [(2, .int ((pg_sj M 1 6 0).1 1 2)), (1, .int 0), (0, .ref 1)]) dX7_next_75 rfl (by decide) rfl ?_
    refine pg_drop (ks := [2, 1, 0]) (ls' := [(0, .ref 1), (1, .int 0), (2, .int ((pg_sj M 1 6 0).1 1 2))]) rfl ?_
    exact k0 c0
  · skip
    refine pg_aload_n (pc := 29) (i := 0) (j := 0) (x := 1) dX7_next_29 rfl rfl ?_
    refine gfX7_9 (pc := 30) rfl h0 dX7_next_30 ?_
    refine pg_iload_n (pc := 33) (i := 1) (j := 1) (x := v1) dX7_next_33 rfl rfl ?_
    refine pg_cald (pc := 34) h0.2 (b0 c0) dX7_next_34 ?_
    refine pg_bipush (pc := 35) (v := 10) dX7_next_35 (by decide) ?_
    refine pg_icmp_eq (pc := 37) (tgt := 51) dX7_next_37 (by decide) (fun c1 => ?_) (fun c1 => ?_)
    · skip
      refine pg_aload_n (pc := 51) (i := 0) (j := 0) (x := 1) dX7_next_51 rfl rfl ?_
      refine pg_iload_n (pc := 52) (i := 1) (j := 1) (x := v1) dX7_next_52 rfl rfl ?_
      refine pg_iconst (pc := 53) (v := 1) dX7_next_53 (by decide) ?_
      refine pg_iadd (pc := 54) dX7_next_54 ?_
      refine pfX7_197 (pc := 55) rfl h0 dX7_next_55 ?_
      refine pg_iinc (pc := 58) (i := 1) (j := 1) (x := v1) (v := v1 + 1) (ls' := [(1, .int (v1 + 1)), (0, .ref 1)]) dX7_next_58 rfl rfl (by decide) rfl ?_
      refine pg_goto (pc := 61) (tgt := 21) dX7_next_61 (by decide) ?_
      refine pg_drop (ks := [1, 0]) (ls' := [(0, .ref 1), (1, .int (v1 + 1))]) rfl ?_
      exact k1 c0 c1
    · skip
      refine pg_aload_n (pc := 40) (i := 0) (j := 0) (x := 1) dX7_next_40 rfl rfl ?_
      refine gfX7_9 (pc := 41) rfl h0 dX7_next_41 ?_
      refine pg_iload_n (pc := 44) (i := 1) (j := 1) (x := v1) dX7_next_44 rfl rfl ?_
      refine pg_cald (pc := 45) h0.2 (b0 c0) dX7_next_45 ?_
      refine pg_bipush (pc := 46) (v := 32) dX7_next_46 (by decide) ?_
      refine pg_icmp_ne (pc := 48) (tgt := 64) dX7_next_48 (by decide) (fun c2 => ?_) (fun c2 => ?_)
      · skip
        refine pg_iconst (pc := 64) (v := 0) dX7_next_64 (by decide) ?_
        refine pg_istore_n (pc := 65) (i := 1) (ls' := [(1, .int 0), (0, .ref 1)]) dX7_next_65 rfl (by decide) rfl ?_
        refine pg_aload_n (pc := 66) (i := 0) (j := 1) (x := 1) dX7_next_66 rfl rfl ?_
        refine pg_lconst (pc := 67) (v := 0) dX7_next_67 (by decide) ?_
        refine pfX7_82 (pc := 68) rfl h0 dX7_next_68 ?_
        refine pg_aload_n (pc := 71) (i := 0) (j := 1) (x := 1) dX7_next_71 rfl rfl ?_
        refine gfX7_197 (pc := 72) rfl h0 dX7_next_72 ?_
        refine pg_istore_n (pc := 75) (i := 2) (ls' := [(2, .int ((pg_sj M 1 6 0).1 1 2)), (1, .int 0), (0, .ref 1)]) dX7_next_75 rfl (by decide) rfl ?_
        refine pg_drop (ks := [2, 1, 0]) (ls' := [(0, .ref 1), (1, .int 0), (2, .int ((pg_sj M 1 6 0).1 1 2))]) rfl ?_
        exact k2 c0 c1 c2
      · skip
        refine pg_aload_n (pc := 51) (i := 0) (j := 0) (x := 1) dX7_next_51 rfl rfl ?_
        refine pg_iload_n (pc := 52) (i := 1) (j := 1) (x := v1) dX7_next_52 rfl rfl ?_
        refine pg_iconst (pc := 53) (v := 1) dX7_next_53 (by decide) ?_
        refine pg_iadd (pc := 54) dX7_next_54 ?_
        refine pfX7_197 (pc := 55) rfl h0 dX7_next_55 ?_
        refine pg_iinc (pc := 58) (i := 1) (j := 1) (x := v1) (v := v1 + 1) (ls' := [(1, .int (v1 + 1)), (0, .ref 1)]) dX7_next_58 rfl rfl (by decide) rfl ?_
        refine pg_goto (pc := 61) (tgt := 21) dX7_next_61 (by decide) ?_
        refine pg_drop (ks := [1, 0]) (ls' := [(0, .ref 1), (1, .int (v1 + 1))]) rfl ?_
        exact k3 c0 c1 c2
theorem sX7_next_76 {v1 : Int32} {v2 : Int32} {Q0 : Int32 → pg_M → Prop}
    (h0 : pg_isX7 Λ)
    (k0 : ((M.1 1 1) ≤ v2) → pg_At S Λ YX7_next (d + 1) 142 [(0, .ref 1), (1, .int v1), (2, .int 0), (3, .int ((pg_si M 1 5 0).1 1 2))] [] (pg_si M 1 5 0) P)
    (b0 : (¬ (M.1 1 1) ≤ v2) → vp_in v2 1000)
    (e0 : (¬ (M.1 1 1) ≤ v2) → pg_Ev S Λ YX7_isLetter d [.int (M.1 2 v2.toNatClampNeg)] M (fun r M' => ∃ x, r = some (.int x) ∧ Q0 x M'))
    (k1 : (¬ (M.1 1 1) ≤ v2) → ∀ x1 M1, Q0 x1 M1 → (x1 = 0) → pg_At S Λ YX7_next (d + 1) 142 [(0, .ref 1), (1, .int v1), (2, .int 0), (3, .int ((pg_si M1 1 5 0).1 1 2))] [] (pg_si M1 1 5 0) P)
    (k2 : (¬ (M.1 1 1) ≤ v2) → ∀ x1 M1, Q0 x1 M1 → (¬ x1 = 0) → pg_At S Λ YX7_next (d + 1) 76 [(0, .ref 1), (1, .int (v1 + 1)), (2, .int (v2 + 1))] [] (pg_sj M1 1 6 ((32 * (M1.2.1 1 6)) + ((((M1.1 2 v2.toNatClampNeg) - 97) + 1).toInt64))) P) :
    pg_At S Λ YX7_next (d + 1) 76 [(0, .ref 1), (1, .int v1), (2, .int v2)] [] M P := by
  refine pg_iload_n (pc := 76) (i := 2) (j := 2) (x := v2) dX7_next_76 rfl rfl ?_
  refine pg_aload_n (pc := 77) (i := 0) (j := 0) (x := 1) dX7_next_77 rfl rfl ?_
  refine gfX7_17 (pc := 78) rfl h0 dX7_next_78 ?_
  refine pg_icmp_ge (pc := 81) (tgt := 130) dX7_next_81 (by decide) (fun c0 => ?_) (fun c0 => ?_)
  · skip
    refine pg_iconst (pc := 130) (v := 0) dX7_next_130 (by decide) ?_
    refine pg_istore_n (pc := 131) (i := 2) (ls' := [(2, .int 0), (0, .ref 1), (1, .int v1)]) dX7_next_131 rfl (by decide) rfl ?_
    refine pg_aload_n (pc := 132) (i := 0) (j := 1) (x := 1) dX7_next_132 rfl rfl ?_
    refine pg_iconst (pc := 133) (v := 0) dX7_next_133 (by decide) ?_
    refine pfX7_194 (pc := 134) rfl h0 dX7_next_134 ?_
    refine pg_aload_n (pc := 137) (i := 0) (j := 1) (x := 1) dX7_next_137 rfl rfl ?_
    refine gfX7_197 (pc := 138) rfl h0 dX7_next_138 ?_
    refine pg_istore_n (pc := 141) (i := 3) (ls' := [(3, .int ((pg_si M 1 5 0).1 1 2)), (2, .int 0), (0, .ref 1), (1, .int v1)]) dX7_next_141 rfl (by decide) rfl ?_
    refine pg_drop (ks := [2, 3, 1, 0]) (ls' := [(0, .ref 1), (1, .int v1), (2, .int 0), (3, .int ((pg_si M 1 5 0).1 1 2))]) rfl ?_
    exact k0 c0
  · skip
    refine pg_aload_n (pc := 84) (i := 0) (j := 0) (x := 1) dX7_next_84 rfl rfl ?_
    refine gfX7_9 (pc := 85) rfl h0 dX7_next_85 ?_
    refine pg_iload_n (pc := 88) (i := 2) (j := 2) (x := v2) dX7_next_88 rfl rfl ?_
    refine pg_cald (pc := 89) h0.2 (b0 c0) dX7_next_89 ?_
    refine pg_callS (pc := 90) (As := [.int (M.1 2 v2.toNatClampNeg)]) (st := []) okX7_isLetter lkX7_200 rfl (Nat.le_refl _) (Nat.le_of_ble_eq_true rfl) (e0 c0) dX7_next_90 (fun r1 M1 w1 => ?_)
    obtain ⟨x1, rfl, w1⟩ := w1
    refine pg_if_eq (pc := 93) (tgt := 130) dX7_next_93 (by decide) (fun c1 => ?_) (fun c1 => ?_)
    · skip
      refine pg_iconst (pc := 130) (v := 0) dX7_next_130 (by decide) ?_
      refine pg_istore_n (pc := 131) (i := 2) (ls' := [(2, .int 0), (0, .ref 1), (1, .int v1)]) dX7_next_131 rfl (by decide) rfl ?_
      refine pg_aload_n (pc := 132) (i := 0) (j := 1) (x := 1) dX7_next_132 rfl rfl ?_
      refine pg_iconst (pc := 133) (v := 0) dX7_next_133 (by decide) ?_
      refine pfX7_194 (pc := 134) rfl h0 dX7_next_134 ?_
      refine pg_aload_n (pc := 137) (i := 0) (j := 1) (x := 1) dX7_next_137 rfl rfl ?_
      refine gfX7_197 (pc := 138) rfl h0 dX7_next_138 ?_
      refine pg_istore_n (pc := 141) (i := 3) (ls' := [(3, .int ((pg_si M1 1 5 0).1 1 2)), (2, .int 0), (0, .ref 1), (1, .int v1)]) dX7_next_141 rfl (by decide) rfl ?_
      refine pg_drop (ks := [2, 3, 1, 0]) (ls' := [(0, .ref 1), (1, .int v1), (2, .int 0), (3, .int ((pg_si M1 1 5 0).1 1 2))]) rfl ?_
      exact k1 c0 x1 M1 w1 c1
    · skip
      refine pg_aload_n (pc := 96) (i := 0) (j := 0) (x := 1) dX7_next_96 rfl rfl ?_
      refine pg_ldc2 (pc := 97) (v := 32) kX7_204 dX7_next_97 ?_
      refine pg_aload_n (pc := 100) (i := 0) (j := 0) (x := 1) dX7_next_100 rfl rfl ?_
      refine gfX7_82 (pc := 101) rfl h0 dX7_next_101 ?_
      refine pg_lmul (pc := 104) dX7_next_104 ?_
      refine pg_aload_n (pc := 105) (i := 0) (j := 0) (x := 1) dX7_next_105 rfl rfl ?_
      refine gfX7_9 (pc := 106) rfl h0 dX7_next_106 ?_
      refine pg_iload_n (pc := 109) (i := 2) (j := 2) (x := v2) dX7_next_109 rfl rfl ?_
      refine pg_cald (pc := 110) h0.2 (b0 c0) dX7_next_110 ?_
      refine pg_bipush (pc := 111) (v := 97) dX7_next_111 (by decide) ?_
      refine pg_isub (pc := 113) dX7_next_113 ?_
      refine pg_iconst (pc := 114) (v := 1) dX7_next_114 (by decide) ?_
      refine pg_iadd (pc := 115) dX7_next_115 ?_
      refine pg_i2l (pc := 116) dX7_next_116 rfl ?_
      refine pg_ladd (pc := 117) dX7_next_117 ?_
      refine pfX7_82 (pc := 118) rfl h0 dX7_next_118 ?_
      refine pg_iinc (pc := 121) (i := 1) (j := 1) (x := v1) (v := v1 + 1) (ls' := [(1, .int (v1 + 1)), (0, .ref 1), (2, .int v2)]) dX7_next_121 rfl rfl (by decide) rfl ?_
      refine pg_iinc (pc := 124) (i := 2) (j := 2) (x := v2) (v := v2 + 1) (ls' := [(2, .int (v2 + 1)), (1, .int (v1 + 1)), (0, .ref 1)]) dX7_next_124 rfl rfl (by decide) rfl ?_
      refine pg_goto (pc := 127) (tgt := 76) dX7_next_127 (by decide) ?_
      refine pg_drop (ks := [2, 1, 0]) (ls' := [(0, .ref 1), (1, .int (v1 + 1)), (2, .int (v2 + 1))]) rfl ?_
      exact k2 c0 x1 M1 w1 c1
theorem sX7_next_142 {v1 : Int32} {v2 : Int32} {v3 : Int32} {Q0 : Int32 → pg_M → Prop} {Q1 : Int32 → pg_M → Prop} {Q2 : Int32 → pg_M → Prop} {Q3 : Int32 → pg_M → Prop} {Q4 : Int32 → pg_M → Prop} {Q5 : Int32 → pg_M → Prop} {Q6 : Int32 → pg_M → Prop}
    (h0 : pg_isX7 Λ)
    (e0 : ((M.1 1 1) ≤ v3) → (v1 ≤ 0) → pg_Ev S Λ YX7_sortOf d [.ref 1, .int v1, .int v2] (pg_si (pg_si M 1 3 (pg_min (M.1 1 1) ((M.1 1 2) + (pg_max 1 (pg_max v1 v2))))) 1 7 (-1)) (fun r M' => ∃ x, r = some (.int x) ∧ Q0 x M'))
    (k0 : ((M.1 1 1) ≤ v3) → (v1 ≤ 0) → ∀ x1 M1, Q0 x1 M1 → P none (pg_si M1 1 4 x1))
    (e1 : ((M.1 1 1) ≤ v3) → (¬ v1 ≤ 0) → pg_Ev S Λ YX7_knownWord d [.long ((pg_si M 1 3 (pg_min (M.1 1 1) ((M.1 1 2) + (pg_max 1 (pg_max v1 v2))))).2.1 1 6)] (pg_si M 1 3 (pg_min (M.1 1 1) ((M.1 1 2) + (pg_max 1 (pg_max v1 v2))))) (fun r M' => ∃ x, r = some (.int x) ∧ Q1 x M'))
    (e2 : ((M.1 1 1) ≤ v3) → (¬ v1 ≤ 0) → ∀ x2 M2, Q1 x2 M2 → pg_Ev S Λ YX7_sortOf d [.ref 1, .int v1, .int v2] (pg_si M2 1 7 x2) (fun r M' => ∃ x, r = some (.int x) ∧ Q2 x M'))
    (k1 : ((M.1 1 1) ≤ v3) → (¬ v1 ≤ 0) → ∀ x2 M2, Q1 x2 M2 → ∀ x3 M3, Q2 x3 M3 → P none (pg_si M3 1 4 x3))
    (b0 : (¬ (M.1 1 1) ≤ v3) → vp_in v3 1000)
    (e3 : (¬ (M.1 1 1) ≤ v3) → pg_Ev S Λ YX7_isDigit d [.int (M.1 2 v3.toNatClampNeg)] M (fun r M' => ∃ x, r = some (.int x) ∧ Q3 x M'))
    (e4 : (¬ (M.1 1 1) ≤ v3) → ∀ x4 M4, Q3 x4 M4 → (x4 = 0) → (v1 ≤ 0) → pg_Ev S Λ YX7_sortOf d [.ref 1, .int v1, .int v2] (pg_si (pg_si M4 1 3 (pg_min (M4.1 1 1) ((M4.1 1 2) + (pg_max 1 (pg_max v1 v2))))) 1 7 (-1)) (fun r M' => ∃ x, r = some (.int x) ∧ Q4 x M'))
    (k2 : (¬ (M.1 1 1) ≤ v3) → ∀ x4 M4, Q3 x4 M4 → (x4 = 0) → (v1 ≤ 0) → ∀ x5 M5, Q4 x5 M5 → P none (pg_si M5 1 4 x5))
    (e5 : (¬ (M.1 1 1) ≤ v3) → ∀ x4 M4, Q3 x4 M4 → (x4 = 0) → (¬ v1 ≤ 0) → pg_Ev S Λ YX7_knownWord d [.long ((pg_si M4 1 3 (pg_min (M4.1 1 1) ((M4.1 1 2) + (pg_max 1 (pg_max v1 v2))))).2.1 1 6)] (pg_si M4 1 3 (pg_min (M4.1 1 1) ((M4.1 1 2) + (pg_max 1 (pg_max v1 v2))))) (fun r M' => ∃ x, r = some (.int x) ∧ Q5 x M'))
    (e6 : (¬ (M.1 1 1) ≤ v3) → ∀ x4 M4, Q3 x4 M4 → (x4 = 0) → (¬ v1 ≤ 0) → ∀ x6 M6, Q5 x6 M6 → pg_Ev S Λ YX7_sortOf d [.ref 1, .int v1, .int v2] (pg_si M6 1 7 x6) (fun r M' => ∃ x, r = some (.int x) ∧ Q6 x M'))
    (k3 : (¬ (M.1 1 1) ≤ v3) → ∀ x4 M4, Q3 x4 M4 → (x4 = 0) → (¬ v1 ≤ 0) → ∀ x6 M6, Q5 x6 M6 → ∀ x7 M7, Q6 x7 M7 → P none (pg_si M7 1 4 x7))
    (k4 : (¬ (M.1 1 1) ≤ v3) → ∀ x4 M4, Q3 x4 M4 → (¬ x4 = 0) → pg_At S Λ YX7_next (d + 1) 142 [(0, .ref 1), (1, .int v1), (2, .int (v2 + 1)), (3, .int (v3 + 1))] [] (pg_si M4 1 5 ((10 * (M4.1 1 5)) + ((M4.1 2 v3.toNatClampNeg) - 48))) P) :
    pg_At S Λ YX7_next (d + 1) 142 [(0, .ref 1), (1, .int v1), (2, .int v2), (3, .int v3)] [] M P := by
  refine pg_iload_n (pc := 142) (i := 3) (j := 3) (x := v3) dX7_next_142 rfl rfl ?_
  refine pg_aload_n (pc := 143) (i := 0) (j := 0) (x := 1) dX7_next_143 rfl rfl ?_
  refine gfX7_17 (pc := 144) rfl h0 dX7_next_144 ?_
  refine pg_icmp_ge (pc := 147) (tgt := 192) dX7_next_147 (by decide) (fun c0 => ?_) (fun c0 => ?_)
  · skip
    refine pg_aload_n (pc := 192) (i := 0) (j := 0) (x := 1) dX7_next_192 rfl rfl ?_
    refine pg_aload_n (pc := 193) (i := 0) (j := 0) (x := 1) dX7_next_193 rfl rfl ?_
    refine gfX7_17 (pc := 194) rfl h0 dX7_next_194 ?_
    refine pg_aload_n (pc := 197) (i := 0) (j := 0) (x := 1) dX7_next_197 rfl rfl ?_
    refine gfX7_197 (pc := 198) rfl h0 dX7_next_198 ?_
    refine pg_iconst (pc := 201) (v := 1) dX7_next_201 (by decide) ?_
    refine pg_iload_n (pc := 202) (i := 1) (j := 1) (x := v1) dX7_next_202 rfl rfl ?_
    refine pg_iload_n (pc := 203) (i := 2) (j := 2) (x := v2) dX7_next_203 rfl rfl ?_
    refine pg_jmax (pc := 204) (st := [.int 1, .int (M.1 1 2), .int (M.1 1 1), .ref 1]) lkX7_209 (Nat.le_of_ble_eq_true rfl) dX7_next_204 ?_
    refine pg_jmax (pc := 207) (st := [.int (M.1 1 2), .int (M.1 1 1), .ref 1]) lkX7_209 (Nat.le_of_ble_eq_true rfl) dX7_next_207 ?_
    refine pg_iadd (pc := 210) dX7_next_210 ?_
    refine pg_jmin (pc := 211) (st := [.ref 1]) lkX7_214 (Nat.le_of_ble_eq_true rfl) dX7_next_211 ?_
    refine pfX7_49 (pc := 214) rfl h0 dX7_next_214 ?_
    refine pg_aload_n (pc := 217) (i := 0) (j := 0) (x := 1) dX7_next_217 rfl rfl ?_
    refine pg_iload_n (pc := 218) (i := 1) (j := 1) (x := v1) dX7_next_218 rfl rfl ?_
    refine pg_if_le (pc := 219) (tgt := 232) dX7_next_219 (by decide) (fun c1 => ?_) (fun c1 => ?_)
    · skip
      refine pg_iconst (pc := 232) (v := (-1)) dX7_next_232 (by decide) ?_
      refine pfX7_55 (pc := 233) rfl h0 dX7_next_233 ?_
      refine pg_aload_n (pc := 236) (i := 0) (j := 0) (x := 1) dX7_next_236 rfl rfl ?_
      refine pg_aload_n (pc := 237) (i := 0) (j := 0) (x := 1) dX7_next_237 rfl rfl ?_
      refine pg_iload_n (pc := 238) (i := 1) (j := 1) (x := v1) dX7_next_238 rfl rfl ?_
      refine pg_iload_n (pc := 239) (i := 2) (j := 2) (x := v2) dX7_next_239 rfl rfl ?_
      refine pg_callV (pc := 240) (As := [.int v1, .int v2]) (st := [.ref 1]) okX7_sortOf lkX7_220 rfl h0.1 rfl (Nat.le_refl _) (Nat.le_of_ble_eq_true rfl) (e0 c0 c1) dX7_next_240 (fun r1 M1 w1 => ?_)
      obtain ⟨x1, rfl, w1⟩ := w1
      refine pfX7_35 (pc := 243) rfl h0 dX7_next_243 ?_
      exact pg_vret (pc := 246) rfl dX7_next_246 (k0 c0 c1 x1 M1 w1)
    · skip
      refine pg_aload_n (pc := 222) (i := 0) (j := 0) (x := 1) dX7_next_222 rfl rfl ?_
      refine gfX7_82 (pc := 223) rfl h0 dX7_next_223 ?_
      refine pg_callS (pc := 226) (As := [.long ((pg_si M 1 3 (pg_min (M.1 1 1) ((M.1 1 2) + (pg_max 1 (pg_max v1 v2))))).2.1 1 6)]) (st := [.ref 1]) okX7_knownWord lkX7_217 rfl (Nat.le_refl _) (Nat.le_of_ble_eq_true rfl) (e1 c0 c1) dX7_next_226 (fun r2 M2 w2 => ?_)
      obtain ⟨x2, rfl, w2⟩ := w2
      refine pg_goto (pc := 229) (tgt := 233) dX7_next_229 (by decide) ?_
      refine pfX7_55 (pc := 233) rfl h0 dX7_next_233 ?_
      refine pg_aload_n (pc := 236) (i := 0) (j := 0) (x := 1) dX7_next_236 rfl rfl ?_
      refine pg_aload_n (pc := 237) (i := 0) (j := 0) (x := 1) dX7_next_237 rfl rfl ?_
      refine pg_iload_n (pc := 238) (i := 1) (j := 1) (x := v1) dX7_next_238 rfl rfl ?_
      refine pg_iload_n (pc := 239) (i := 2) (j := 2) (x := v2) dX7_next_239 rfl rfl ?_
      refine pg_callV (pc := 240) (As := [.int v1, .int v2]) (st := [.ref 1]) okX7_sortOf lkX7_220 rfl h0.1 rfl (Nat.le_refl _) (Nat.le_of_ble_eq_true rfl) (e2 c0 c1 x2 M2 w2) dX7_next_240 (fun r3 M3 w3 => ?_)
      obtain ⟨x3, rfl, w3⟩ := w3
      refine pfX7_35 (pc := 243) rfl h0 dX7_next_243 ?_
      exact pg_vret (pc := 246) rfl dX7_next_246 (k1 c0 c1 x2 M2 w2 x3 M3 w3)
  · skip
    refine pg_aload_n (pc := 150) (i := 0) (j := 0) (x := 1) dX7_next_150 rfl rfl ?_
    refine gfX7_9 (pc := 151) rfl h0 dX7_next_151 ?_
    refine pg_iload_n (pc := 154) (i := 3) (j := 3) (x := v3) dX7_next_154 rfl rfl ?_
    refine pg_cald (pc := 155) h0.2 (b0 c0) dX7_next_155 ?_
    refine pg_callS (pc := 156) (As := [.int (M.1 2 v3.toNatClampNeg)]) (st := []) okX7_isDigit lkX7_206 rfl (Nat.le_refl _) (Nat.le_of_ble_eq_true rfl) (e3 c0) dX7_next_156 (fun r4 M4 w4 => ?_)
    obtain ⟨x4, rfl, w4⟩ := w4
    refine pg_if_eq (pc := 159) (tgt := 192) dX7_next_159 (by decide) (fun c1 => ?_) (fun c1 => ?_)
    · skip
      refine pg_aload_n (pc := 192) (i := 0) (j := 0) (x := 1) dX7_next_192 rfl rfl ?_
      refine pg_aload_n (pc := 193) (i := 0) (j := 0) (x := 1) dX7_next_193 rfl rfl ?_
      refine gfX7_17 (pc := 194) rfl h0 dX7_next_194 ?_
      refine pg_aload_n (pc := 197) (i := 0) (j := 0) (x := 1) dX7_next_197 rfl rfl ?_
      refine gfX7_197 (pc := 198) rfl h0 dX7_next_198 ?_
      refine pg_iconst (pc := 201) (v := 1) dX7_next_201 (by decide) ?_
      refine pg_iload_n (pc := 202) (i := 1) (j := 1) (x := v1) dX7_next_202 rfl rfl ?_
      refine pg_iload_n (pc := 203) (i := 2) (j := 2) (x := v2) dX7_next_203 rfl rfl ?_
      refine pg_jmax (pc := 204) (st := [.int 1, .int (M4.1 1 2), .int (M4.1 1 1), .ref 1]) lkX7_209 (Nat.le_of_ble_eq_true rfl) dX7_next_204 ?_
      refine pg_jmax (pc := 207) (st := [.int (M4.1 1 2), .int (M4.1 1 1), .ref 1]) lkX7_209 (Nat.le_of_ble_eq_true rfl) dX7_next_207 ?_
      refine pg_iadd (pc := 210) dX7_next_210 ?_
      refine pg_jmin (pc := 211) (st := [.ref 1]) lkX7_214 (Nat.le_of_ble_eq_true rfl) dX7_next_211 ?_
      refine pfX7_49 (pc := 214) rfl h0 dX7_next_214 ?_
      refine pg_aload_n (pc := 217) (i := 0) (j := 0) (x := 1) dX7_next_217 rfl rfl ?_
      refine pg_iload_n (pc := 218) (i := 1) (j := 1) (x := v1) dX7_next_218 rfl rfl ?_
      refine pg_if_le (pc := 219) (tgt := 232) dX7_next_219 (by decide) (fun c2 => ?_) (fun c2 => ?_)
      · skip
        refine pg_iconst (pc := 232) (v := (-1)) dX7_next_232 (by decide) ?_
        refine pfX7_55 (pc := 233) rfl h0 dX7_next_233 ?_
        refine pg_aload_n (pc := 236) (i := 0) (j := 0) (x := 1) dX7_next_236 rfl rfl ?_
        refine pg_aload_n (pc := 237) (i := 0) (j := 0) (x := 1) dX7_next_237 rfl rfl ?_
        refine pg_iload_n (pc := 238) (i := 1) (j := 1) (x := v1) dX7_next_238 rfl rfl ?_
        refine pg_iload_n (pc := 239) (i := 2) (j := 2) (x := v2) dX7_next_239 rfl rfl ?_
        refine pg_callV (pc := 240) (As := [.int v1, .int v2]) (st := [.ref 1]) okX7_sortOf lkX7_220 rfl h0.1 rfl (Nat.le_refl _) (Nat.le_of_ble_eq_true rfl) (e4 c0 x4 M4 w4 c1 c2) dX7_next_240 (fun r5 M5 w5 => ?_)
        obtain ⟨x5, rfl, w5⟩ := w5
        refine pfX7_35 (pc := 243) rfl h0 dX7_next_243 ?_
        exact pg_vret (pc := 246) rfl dX7_next_246 (k2 c0 x4 M4 w4 c1 c2 x5 M5 w5)
      · skip
        refine pg_aload_n (pc := 222) (i := 0) (j := 0) (x := 1) dX7_next_222 rfl rfl ?_
        refine gfX7_82 (pc := 223) rfl h0 dX7_next_223 ?_
        refine pg_callS (pc := 226) (As := [.long ((pg_si M4 1 3 (pg_min (M4.1 1 1) ((M4.1 1 2) + (pg_max 1 (pg_max v1 v2))))).2.1 1 6)]) (st := [.ref 1]) okX7_knownWord lkX7_217 rfl (Nat.le_refl _) (Nat.le_of_ble_eq_true rfl) (e5 c0 x4 M4 w4 c1 c2) dX7_next_226 (fun r6 M6 w6 => ?_)
        obtain ⟨x6, rfl, w6⟩ := w6
        refine pg_goto (pc := 229) (tgt := 233) dX7_next_229 (by decide) ?_
        refine pfX7_55 (pc := 233) rfl h0 dX7_next_233 ?_
        refine pg_aload_n (pc := 236) (i := 0) (j := 0) (x := 1) dX7_next_236 rfl rfl ?_
        refine pg_aload_n (pc := 237) (i := 0) (j := 0) (x := 1) dX7_next_237 rfl rfl ?_
        refine pg_iload_n (pc := 238) (i := 1) (j := 1) (x := v1) dX7_next_238 rfl rfl ?_
        refine pg_iload_n (pc := 239) (i := 2) (j := 2) (x := v2) dX7_next_239 rfl rfl ?_
        refine pg_callV (pc := 240) (As := [.int v1, .int v2]) (st := [.ref 1]) okX7_sortOf lkX7_220 rfl h0.1 rfl (Nat.le_refl _) (Nat.le_of_ble_eq_true rfl) (e6 c0 x4 M4 w4 c1 c2 x6 M6 w6) dX7_next_240 (fun r7 M7 w7 => ?_)
        obtain ⟨x7, rfl, w7⟩ := w7
        refine pfX7_35 (pc := 243) rfl h0 dX7_next_243 ?_
        exact pg_vret (pc := 246) rfl dX7_next_246 (k3 c0 x4 M4 w4 c1 c2 x6 M6 w6 x7 M7 w7)
    · skip
      refine pg_aload_n (pc := 162) (i := 0) (j := 0) (x := 1) dX7_next_162 rfl rfl ?_
      refine pg_bipush (pc := 163) (v := 10) dX7_next_163 (by decide) ?_
      refine pg_aload_n (pc := 165) (i := 0) (j := 0) (x := 1) dX7_next_165 rfl rfl ?_
      refine gfX7_194 (pc := 166) rfl h0 dX7_next_166 ?_
      refine pg_imul (pc := 169) dX7_next_169 ?_
      refine pg_aload_n (pc := 170) (i := 0) (j := 0) (x := 1) dX7_next_170 rfl rfl ?_
      refine gfX7_9 (pc := 171) rfl h0 dX7_next_171 ?_
      refine pg_iload_n (pc := 174) (i := 3) (j := 3) (x := v3) dX7_next_174 rfl rfl ?_
      refine pg_cald (pc := 175) h0.2 (b0 c0) dX7_next_175 ?_
      refine pg_bipush (pc := 176) (v := 48) dX7_next_176 (by decide) ?_
      refine pg_isub (pc := 178) dX7_next_178 ?_
      refine pg_iadd (pc := 179) dX7_next_179 ?_
      refine pfX7_194 (pc := 180) rfl h0 dX7_next_180 ?_
      refine pg_iinc (pc := 183) (i := 2) (j := 2) (x := v2) (v := v2 + 1) (ls' := [(2, .int (v2 + 1)), (0, .ref 1), (1, .int v1), (3, .int v3)]) dX7_next_183 rfl rfl (by decide) rfl ?_
      refine pg_iinc (pc := 186) (i := 3) (j := 3) (x := v3) (v := v3 + 1) (ls' := [(3, .int (v3 + 1)), (2, .int (v2 + 1)), (0, .ref 1), (1, .int v1)]) dX7_next_186 rfl rfl (by decide) rfl ?_
      refine pg_goto (pc := 189) (tgt := 142) dX7_next_189 (by decide) ?_
      refine pg_drop (ks := [2, 3, 1, 0]) (ls' := [(0, .ref 1), (1, .int v1), (2, .int (v2 + 1)), (3, .int (v3 + 1))]) rfl ?_
      exact k4 c0 x4 M4 w4 c1
theorem oX7_next {d : Nat}  (h : pg_At S Λ YX7_next d 0 [(0, .ref 1)] [] M P) : pg_Ev S Λ YX7_next d [.ref 1] M P := pg_Ev.of (by decide) (by first | decide | exact Nat.le_of_ble_eq_true rfl) h
theorem sX7_sortOf_0 {v1 : Int32} {v2 : Int32} 
    (h0 : pg_isX7 Λ)
    (b0 : ((M.1 1 2) < (M.1 1 1)) → (v1 ≤ 0) → (v2 ≤ 0) → vp_in (M.1 1 2) 1000)
    (k0 : ((M.1 1 2) < (M.1 1 1)) → (v1 ≤ 0) → (v2 ≤ 0) → ((pg_sgx (M.1 2 (M.1 1 2).toNatClampNeg)) < 0) → P (some (.int 1)) M)
    (k1 : ((M.1 1 2) < (M.1 1 1)) → (v1 ≤ 0) → (v2 ≤ 0) → (¬ (pg_sgx (M.1 2 (M.1 1 2).toNatClampNeg)) < 0) → P (some (.int (M.1 2 (M.1 1 2).toNatClampNeg))) M)
    (k2 : ((M.1 1 2) < (M.1 1 1)) → (v1 ≤ 0) → (¬ v2 ≤ 0) → (4 < v2) → P (some (.int 1)) M)
    (k3 : ((M.1 1 2) < (M.1 1 1)) → (v1 ≤ 0) → (¬ v2 ≤ 0) → (¬ 4 < v2) → P (some (.int 3)) M)
    (k4 : ((M.1 1 2) < (M.1 1 1)) → (¬ v1 ≤ 0) → (8 < v1) → P (some (.int 1)) M)
    (k5 : ((M.1 1 2) < (M.1 1 1)) → (¬ v1 ≤ 0) → (¬ 8 < v1) → P (some (.int 2)) M)
    (k6 : (¬ (M.1 1 2) < (M.1 1 1)) → P (some (.int 0)) M) :
    pg_At S Λ YX7_sortOf (d + 1) 0 [(0, .ref 1), (1, .int v1), (2, .int v2)] [] M P := by
  refine pg_aload_n (pc := 0) (i := 0) (j := 0) (x := 1) dX7_sortOf_0 rfl rfl ?_
  refine gfX7_197 (pc := 1) rfl h0 dX7_sortOf_1 ?_
  refine pg_aload_n (pc := 4) (i := 0) (j := 0) (x := 1) dX7_sortOf_4 rfl rfl ?_
  refine gfX7_17 (pc := 5) rfl h0 dX7_sortOf_5 ?_
  refine pg_icmp_lt (pc := 8) (tgt := 13) dX7_sortOf_8 (by decide) (fun c0 => ?_) (fun c0 => ?_)
  · skip
    refine pg_iload_n (pc := 13) (i := 1) (j := 1) (x := v1) dX7_sortOf_13 rfl rfl ?_
    refine pg_if_le (pc := 14) (tgt := 29) dX7_sortOf_14 (by decide) (fun c1 => ?_) (fun c1 => ?_)
    · skip
      refine pg_iload_n (pc := 29) (i := 2) (j := 2) (x := v2) dX7_sortOf_29 rfl rfl ?_
      refine pg_if_le (pc := 30) (tgt := 44) dX7_sortOf_30 (by decide) (fun c2 => ?_) (fun c2 => ?_)
      · skip
        refine pg_ldcS (Y := YX7_sortOf) (index := 223) (pc := 44) (q := 1001) pg_str1 (by decide) dX7_sortOf_44 ?_
        refine pg_aload_n (pc := 46) (i := 0) (j := 0) (x := 1) dX7_sortOf_46 rfl rfl ?_
        refine gfX7_9 (pc := 47) rfl h0 dX7_sortOf_47 ?_
        refine pg_aload_n (pc := 50) (i := 0) (j := 0) (x := 1) dX7_sortOf_50 rfl rfl ?_
        refine gfX7_197 (pc := 51) rfl h0 dX7_sortOf_51 ?_
        refine pg_cald (pc := 54) h0.2 (b0 c0 c1 c2) dX7_sortOf_54 ?_
        refine pg_txidx (pc := 55) (st := []) lkX7_225 (Nat.le_of_ble_eq_true rfl) dX7_sortOf_55 ?_
        refine pg_if_lt (pc := 58) (tgt := 73) dX7_sortOf_58 (by decide) (fun c3 => ?_) (fun c3 => ?_)
        · skip
          refine pg_iconst (pc := 73) (v := 1) dX7_sortOf_73 (by decide) ?_
          exact pg_iret (pc := 74) rfl dX7_sortOf_74 (k0 c0 c1 c2 c3)
        · skip
          refine pg_aload_n (pc := 61) (i := 0) (j := 0) (x := 1) dX7_sortOf_61 rfl rfl ?_
          refine gfX7_9 (pc := 62) rfl h0 dX7_sortOf_62 ?_
          refine pg_aload_n (pc := 65) (i := 0) (j := 0) (x := 1) dX7_sortOf_65 rfl rfl ?_
          refine gfX7_197 (pc := 66) rfl h0 dX7_sortOf_66 ?_
          refine pg_cald (pc := 69) h0.2 (b0 c0 c1 c2) dX7_sortOf_69 ?_
          refine pg_goto (pc := 70) (tgt := 74) dX7_sortOf_70 (by decide) ?_
          exact pg_iret (pc := 74) rfl dX7_sortOf_74 (k1 c0 c1 c2 c3)
      · skip
        refine pg_iload_n (pc := 33) (i := 2) (j := 2) (x := v2) dX7_sortOf_33 rfl rfl ?_
        refine pg_iconst (pc := 34) (v := 4) dX7_sortOf_34 (by decide) ?_
        refine pg_icmp_gt (pc := 35) (tgt := 42) dX7_sortOf_35 (by decide) (fun c3 => ?_) (fun c3 => ?_)
        · skip
          refine pg_iconst (pc := 42) (v := 1) dX7_sortOf_42 (by decide) ?_
          exact pg_iret (pc := 43) rfl dX7_sortOf_43 (k2 c0 c1 c2 c3)
        · skip
          refine pg_iconst (pc := 38) (v := 3) dX7_sortOf_38 (by decide) ?_
          refine pg_goto (pc := 39) (tgt := 43) dX7_sortOf_39 (by decide) ?_
          exact pg_iret (pc := 43) rfl dX7_sortOf_43 (k3 c0 c1 c2 c3)
    · skip
      refine pg_iload_n (pc := 17) (i := 1) (j := 1) (x := v1) dX7_sortOf_17 rfl rfl ?_
      refine pg_bipush (pc := 18) (v := 8) dX7_sortOf_18 (by decide) ?_
      refine pg_icmp_gt (pc := 20) (tgt := 27) dX7_sortOf_20 (by decide) (fun c2 => ?_) (fun c2 => ?_)
      · skip
        refine pg_iconst (pc := 27) (v := 1) dX7_sortOf_27 (by decide) ?_
        exact pg_iret (pc := 28) rfl dX7_sortOf_28 (k4 c0 c1 c2)
      · skip
        refine pg_iconst (pc := 23) (v := 2) dX7_sortOf_23 (by decide) ?_
        refine pg_goto (pc := 24) (tgt := 28) dX7_sortOf_24 (by decide) ?_
        exact pg_iret (pc := 28) rfl dX7_sortOf_28 (k5 c0 c1 c2)
  · skip
    refine pg_iconst (pc := 11) (v := 0) dX7_sortOf_11 (by decide) ?_
    exact pg_iret (pc := 12) rfl dX7_sortOf_12 (k6 c0)
theorem oX7_sortOf {d : Nat} {v1 : Int32} {v2 : Int32} (h : pg_At S Λ YX7_sortOf d 0 [(0, .ref 1), (1, .int v1), (2, .int v2)] [] M P) : pg_Ev S Λ YX7_sortOf d [.ref 1, .int v1, .int v2] M P := pg_Ev.of (by decide) (by first | decide | exact Nat.le_of_ble_eq_true rfl) h
theorem sX7_knownWord_0 {v0 : Int64} 
    (k0 : pg_At S Λ YX7_knownWord (d + 1) 7 [(0, .long v0), (2, .int 0), (3, .long 0), (5, .int 0)] [] M P) :
    pg_At S Λ YX7_knownWord (d + 1) 0 [(0, .long v0)] [] M P := by
  refine pg_iconst (pc := 0) (v := 0) dX7_knownWord_0 (by decide) ?_
  refine pg_istore_n (pc := 1) (i := 2) (ls' := [(2, .int 0), (0, .long v0)]) dX7_knownWord_1 rfl (by decide) rfl ?_
  refine pg_lconst (pc := 2) (v := 0) dX7_knownWord_2 (by decide) ?_
  refine pg_lstore_n (pc := 3) (i := 3) (ls' := [(3, .long 0), (2, .int 0), (0, .long v0)]) dX7_knownWord_3 rfl (by decide) rfl ?_
  refine pg_iconst (pc := 4) (v := 0) dX7_knownWord_4 (by decide) ?_
  refine pg_istore (pc := 5) (i := 5) (ls' := [(5, .int 0), (3, .long 0), (2, .int 0), (0, .long v0)]) dX7_knownWord_5 (by decide) rfl ?_
  refine pg_drop (ks := [3, 2, 1, 0]) (ls' := [(0, .long v0), (2, .int 0), (3, .long 0), (5, .int 0)]) rfl ?_
  exact k0
theorem sX7_knownWord_7 {v0 : Int64} {v2 : Int32} {v3 : Int64} {v5 : Int32} 
    (k0 : (pg_wlen ≤ v5) → P (some (.int (-1))) M)
    (b0 : (¬ pg_wlen ≤ v5) → vp_in v5 137)
    (k1 : (¬ pg_wlen ≤ v5) → ((pg_wch v5.toNatClampNeg) = 32) → (¬ (lg_cmp v3 v0) = 0) → pg_At S Λ YX7_knownWord (d + 1) 7 [(0, .long v0), (2, .int (v2 + 1)), (3, .long 0), (5, .int (v5 + 1))] [] M P)
    (k2 : (¬ pg_wlen ≤ v5) → ((pg_wch v5.toNatClampNeg) = 32) → ((lg_cmp v3 v0) = 0) → P (some (.int v2)) M)
    (k3 : (¬ pg_wlen ≤ v5) → (¬ (pg_wch v5.toNatClampNeg) = 32) → pg_At S Λ YX7_knownWord (d + 1) 7 [(0, .long v0), (2, .int v2), (3, .long ((32 * v3) + ((((pg_wch v5.toNatClampNeg) - 97) + 1).toInt64))), (5, .int (v5 + 1))] [] M P) :
    pg_At S Λ YX7_knownWord (d + 1) 7 [(0, .long v0), (2, .int v2), (3, .long v3), (5, .int v5)] [] M P := by
  refine pg_iload (pc := 7) (i := 5) (j := 3) (x := v5) dX7_knownWord_7 rfl ?_
  refine pg_ldcS (Y := YX7_knownWord) (index := 231) (pc := 9) (q := 1000) pg_str0 (by decide) dX7_knownWord_9 ?_
  refine pg_txlen (pc := 11) (st := [.int v5]) lkX7_233 (Nat.le_of_ble_eq_true rfl) dX7_knownWord_11 ?_
  refine pg_icmp_ge (pc := 14) (tgt := 70) dX7_knownWord_14 (by decide) (fun c0 => ?_) (fun c0 => ?_)
  · skip
    refine pg_iconst (pc := 70) (v := (-1)) dX7_knownWord_70 (by decide) ?_
    exact pg_iret (pc := 71) rfl dX7_knownWord_71 (k0 c0)
  · skip
    refine pg_ldcS (Y := YX7_knownWord) (index := 231) (pc := 17) (q := 1000) pg_str0 (by decide) dX7_knownWord_17 ?_
    refine pg_iload (pc := 19) (i := 5) (j := 3) (x := v5) dX7_knownWord_19 rfl ?_
    refine pg_txchar (pc := 21) (st := []) lkX7_235 (b0 c0) (Nat.le_of_ble_eq_true rfl) dX7_knownWord_21 ?_
    refine pg_istore (pc := 24) (i := 6) (ls' := [(6, .int (pg_wch v5.toNatClampNeg)), (0, .long v0), (2, .int v2), (3, .long v3), (5, .int v5)]) dX7_knownWord_24 (by decide) rfl ?_
    refine pg_iload (pc := 26) (i := 6) (j := 0) (x := (pg_wch v5.toNatClampNeg)) dX7_knownWord_26 rfl ?_
    refine pg_bipush (pc := 28) (v := 32) dX7_knownWord_28 (by decide) ?_
    refine pg_icmp_eq (pc := 30) (tgt := 51) dX7_knownWord_30 (by decide) (fun c1 => ?_) (fun c1 => ?_)
    · skip
      refine pg_lload_n (pc := 51) (i := 3) (j := 3) (x := v3) dX7_knownWord_51 rfl rfl ?_
      refine pg_lload_n (pc := 52) (i := 0) (j := 1) (x := v0) dX7_knownWord_52 rfl rfl ?_
      refine pg_lcmp (pc := 53) dX7_knownWord_53 ?_
      refine pg_if_ne (pc := 54) (tgt := 59) dX7_knownWord_54 (by decide) (fun c2 => ?_) (fun c2 => ?_)
      · skip
        refine pg_lconst (pc := 59) (v := 0) dX7_knownWord_59 (by decide) ?_
        refine pg_lstore_n (pc := 60) (i := 3) (ls' := [(3, .long 0), (6, .int (pg_wch v5.toNatClampNeg)), (0, .long v0), (2, .int v2), (5, .int v5)]) dX7_knownWord_60 rfl (by decide) rfl ?_
        refine pg_iinc (pc := 61) (i := 2) (j := 3) (x := v2) (v := v2 + 1) (ls' := [(2, .int (v2 + 1)), (3, .long 0), (6, .int (pg_wch v5.toNatClampNeg)), (0, .long v0), (5, .int v5)]) dX7_knownWord_61 rfl rfl (by decide) rfl ?_
        refine pg_iinc (pc := 64) (i := 5) (j := 4) (x := v5) (v := v5 + 1) (ls' := [(5, .int (v5 + 1)), (2, .int (v2 + 1)), (3, .long 0), (6, .int (pg_wch v5.toNatClampNeg)), (0, .long v0)]) dX7_knownWord_64 rfl rfl (by decide) rfl ?_
        refine pg_goto (pc := 67) (tgt := 7) dX7_knownWord_67 (by decide) ?_
        refine pg_drop (ks := [4, 1, 2, 0]) (ls' := [(0, .long v0), (2, .int (v2 + 1)), (3, .long 0), (5, .int (v5 + 1))]) rfl ?_
        exact k1 c0 c1 c2
      · skip
        refine pg_iload_n (pc := 57) (i := 2) (j := 2) (x := v2) dX7_knownWord_57 rfl rfl ?_
        exact pg_iret (pc := 58) rfl dX7_knownWord_58 (k2 c0 c1 c2)
    · skip
      refine pg_ldc2 (pc := 33) (v := 32) kX7_204 dX7_knownWord_33 ?_
      refine pg_lload_n (pc := 36) (i := 3) (j := 3) (x := v3) dX7_knownWord_36 rfl rfl ?_
      refine pg_lmul (pc := 37) dX7_knownWord_37 ?_
      refine pg_iload (pc := 38) (i := 6) (j := 0) (x := (pg_wch v5.toNatClampNeg)) dX7_knownWord_38 rfl ?_
      refine pg_bipush (pc := 40) (v := 97) dX7_knownWord_40 (by decide) ?_
      refine pg_isub (pc := 42) dX7_knownWord_42 ?_
      refine pg_iconst (pc := 43) (v := 1) dX7_knownWord_43 (by decide) ?_
      refine pg_iadd (pc := 44) dX7_knownWord_44 ?_
      refine pg_i2l (pc := 45) dX7_knownWord_45 rfl ?_
      refine pg_ladd (pc := 46) dX7_knownWord_46 ?_
      refine pg_lstore_n (pc := 47) (i := 3) (ls' := [(3, .long ((32 * v3) + ((((pg_wch v5.toNatClampNeg) - 97) + 1).toInt64))), (6, .int (pg_wch v5.toNatClampNeg)), (0, .long v0), (2, .int v2), (5, .int v5)]) dX7_knownWord_47 rfl (by decide) rfl ?_
      refine pg_goto (pc := 48) (tgt := 64) dX7_knownWord_48 (by decide) ?_
      refine pg_iinc (pc := 64) (i := 5) (j := 4) (x := v5) (v := v5 + 1) (ls' := [(5, .int (v5 + 1)), (3, .long ((32 * v3) + ((((pg_wch v5.toNatClampNeg) - 97) + 1).toInt64))), (6, .int (pg_wch v5.toNatClampNeg)), (0, .long v0), (2, .int v2)]) dX7_knownWord_64 rfl rfl (by decide) rfl ?_
      refine pg_goto (pc := 67) (tgt := 7) dX7_knownWord_67 (by decide) ?_
      refine pg_drop (ks := [3, 4, 1, 0]) (ls' := [(0, .long v0), (2, .int v2), (3, .long ((32 * v3) + ((((pg_wch v5.toNatClampNeg) - 97) + 1).toInt64))), (5, .int (v5 + 1))]) rfl ?_
      exact k3 c0 c1
theorem oX7_knownWord {d : Nat} {v0 : Int64} (h : pg_At S Λ YX7_knownWord d 0 [(0, .long v0)] [] M P) : pg_Ev S Λ YX7_knownWord d [.long v0] M P := pg_Ev.of (by decide) (by first | decide | exact Nat.le_of_ble_eq_true rfl) h
theorem sX7_isLetter_0 {v0 : Int32} 
    (k0 : (v0 < 97) → P (some (.int 0)) M)
    (k1 : (¬ v0 < 97) → (122 < v0) → P (some (.int 0)) M)
    (k2 : (¬ v0 < 97) → (¬ 122 < v0) → P (some (.int 1)) M) :
    pg_At S Λ YX7_isLetter d 0 [(0, .int v0)] [] M P := by
  refine pg_iload_n (pc := 0) (i := 0) (j := 0) (x := v0) dX7_isLetter_0 rfl rfl ?_
  refine pg_bipush (pc := 1) (v := 97) dX7_isLetter_1 (by decide) ?_
  refine pg_icmp_lt (pc := 3) (tgt := 16) dX7_isLetter_3 (by decide) (fun c0 => ?_) (fun c0 => ?_)
  · skip
    refine pg_iconst (pc := 16) (v := 0) dX7_isLetter_16 (by decide) ?_
    exact pg_zret (pc := 17) rfl rfl dX7_isLetter_17 (k0 c0)
  · skip
    refine pg_iload_n (pc := 6) (i := 0) (j := 0) (x := v0) dX7_isLetter_6 rfl rfl ?_
    refine pg_bipush (pc := 7) (v := 122) dX7_isLetter_7 (by decide) ?_
    refine pg_icmp_gt (pc := 9) (tgt := 16) dX7_isLetter_9 (by decide) (fun c1 => ?_) (fun c1 => ?_)
    · skip
      refine pg_iconst (pc := 16) (v := 0) dX7_isLetter_16 (by decide) ?_
      exact pg_zret (pc := 17) rfl rfl dX7_isLetter_17 (k1 c0 c1)
    · skip
      refine pg_iconst (pc := 12) (v := 1) dX7_isLetter_12 (by decide) ?_
      refine pg_goto (pc := 13) (tgt := 17) dX7_isLetter_13 (by decide) ?_
      exact pg_zret (pc := 17) rfl rfl dX7_isLetter_17 (k2 c0 c1)
theorem oX7_isLetter {d : Nat} {v0 : Int32} (h : pg_At S Λ YX7_isLetter d 0 [(0, .int v0)] [] M P) : pg_Ev S Λ YX7_isLetter d [.int v0] M P := pg_Ev.of (by decide) (by first | decide | exact Nat.le_of_ble_eq_true rfl) h
theorem sX7_isDigit_0 {v0 : Int32} 
    (k0 : (v0 < 48) → P (some (.int 0)) M)
    (k1 : (¬ v0 < 48) → (57 < v0) → P (some (.int 0)) M)
    (k2 : (¬ v0 < 48) → (¬ 57 < v0) → P (some (.int 1)) M) :
    pg_At S Λ YX7_isDigit d 0 [(0, .int v0)] [] M P := by
  refine pg_iload_n (pc := 0) (i := 0) (j := 0) (x := v0) dX7_isDigit_0 rfl rfl ?_
  refine pg_bipush (pc := 1) (v := 48) dX7_isDigit_1 (by decide) ?_
  refine pg_icmp_lt (pc := 3) (tgt := 16) dX7_isDigit_3 (by decide) (fun c0 => ?_) (fun c0 => ?_)
  · skip
    refine pg_iconst (pc := 16) (v := 0) dX7_isDigit_16 (by decide) ?_
    exact pg_zret (pc := 17) rfl rfl dX7_isDigit_17 (k0 c0)
  · skip
    refine pg_iload_n (pc := 6) (i := 0) (j := 0) (x := v0) dX7_isDigit_6 rfl rfl ?_
    refine pg_bipush (pc := 7) (v := 57) dX7_isDigit_7 (by decide) ?_
    refine pg_icmp_gt (pc := 9) (tgt := 16) dX7_isDigit_9 (by decide) (fun c1 => ?_) (fun c1 => ?_)
    · skip
      refine pg_iconst (pc := 16) (v := 0) dX7_isDigit_16 (by decide) ?_
      exact pg_zret (pc := 17) rfl rfl dX7_isDigit_17 (k1 c0 c1)
    · skip
      refine pg_iconst (pc := 12) (v := 1) dX7_isDigit_12 (by decide) ?_
      refine pg_goto (pc := 13) (tgt := 17) dX7_isDigit_13 (by decide) ?_
      exact pg_zret (pc := 17) rfl rfl dX7_isDigit_17 (k2 c0 c1)
theorem oX7_isDigit {d : Nat} {v0 : Int32} (h : pg_At S Λ YX7_isDigit d 0 [(0, .int v0)] [] M P) : pg_Ev S Λ YX7_isDigit d [.int v0] M P := pg_Ev.of (by decide) (by first | decide | exact Nat.le_of_ble_eq_true rfl) h

end PGS

