section PGS
variable {S : pg_S} {Λ : pg_L} {d : Nat} {M : pg_M} {P : Option Value → pg_M → Prop}

theorem sX11_thrown_0  
    (h0 : pg_isX11 Λ)
    (k0 : P (some (.int (M.1 207 0))) M) :
    pg_At S Λ YX11_thrown d 0 [(0, .ref 207)] [] M P := by
  refine pg_aload_n (pc := 0) (i := 0) (j := 0) (x := 207) dX11_thrown_0 rfl rfl ?_
  refine gfX11_1 (pc := 1) rfl h0 dX11_thrown_1 ?_
  exact pg_iret (pc := 4) rfl dX11_thrown_4 k0
theorem oX11_thrown {d : Nat}  (h : pg_At S Λ YX11_thrown d 0 [(0, .ref 207)] [] M P) : pg_Ev S Λ YX11_thrown d [.ref 207] M P := pg_Ev.of (by decide) (by first | decide | exact Nat.le_of_ble_eq_true rfl) h
theorem sX11_feed_0 {v1 : Int64} {v3 : Int64} {v5 : Int64} {Q0 : pg_M → Prop} {Q1 : pg_M → Prop} {Q2 : pg_M → Prop}
    (h0 : pg_isX11 Λ)
    (e0 : pg_Ev S Λ YX11_lay d [.ref 207, .long v1] (pg_si M 207 0 0) (fun r M' => r = none ∧ Q0 M'))
    (e1 : ∀ M1, Q0 M1 → pg_Ev S Λ YX11_lay d [.ref 207, .long v3] M1 (fun r M' => r = none ∧ Q1 M'))
    (e2 : ∀ M1, Q0 M1 → ∀ M2, Q1 M2 → pg_Ev S Λ YX11_lay d [.ref 207, .long v5] M2 (fun r M' => r = none ∧ Q2 M'))
    (k0 : ∀ M1, Q0 M1 → ∀ M2, Q1 M2 → ∀ M3, Q2 M3 → P (some (.int (M3.1 207 2))) M3) :
    pg_At S Λ YX11_feed (d + 1) 0 [(0, .ref 207), (1, .long v1), (3, .long v3), (5, .long v5)] [] M P := by
  refine pg_aload_n (pc := 0) (i := 0) (j := 0) (x := 207) dX11_feed_0 rfl rfl ?_
  refine pg_iconst (pc := 1) (v := 0) dX11_feed_1 (by decide) ?_
  refine pfX11_1 (pc := 2) rfl h0 dX11_feed_2 ?_
  refine pg_aload_n (pc := 5) (i := 0) (j := 0) (x := 207) dX11_feed_5 rfl rfl ?_
  refine pg_lload_n (pc := 6) (i := 1) (j := 1) (x := v1) dX11_feed_6 rfl rfl ?_
  refine pg_callV (pc := 7) (As := [.long v1]) (st := []) okX11_lay lkX11_7 rfl h0.1 rfl (Nat.le_refl _) (Nat.le_of_ble_eq_true rfl) e0 dX11_feed_7 (fun r1 M1 w1 => ?_)
  obtain ⟨rfl, w1⟩ := w1
  refine pg_aload_n (pc := 10) (i := 0) (j := 0) (x := 207) dX11_feed_10 rfl rfl ?_
  refine pg_lload_n (pc := 11) (i := 3) (j := 2) (x := v3) dX11_feed_11 rfl rfl ?_
  refine pg_callV (pc := 12) (As := [.long v3]) (st := []) okX11_lay lkX11_7 rfl h0.1 rfl (Nat.le_refl _) (Nat.le_of_ble_eq_true rfl) (e1 M1 w1) dX11_feed_12 (fun r2 M2 w2 => ?_)
  obtain ⟨rfl, w2⟩ := w2
  refine pg_aload_n (pc := 15) (i := 0) (j := 0) (x := 207) dX11_feed_15 rfl rfl ?_
  refine pg_lload (pc := 16) (i := 5) (j := 3) (x := v5) dX11_feed_16 rfl ?_
  refine pg_callV (pc := 18) (As := [.long v5]) (st := []) okX11_lay lkX11_7 rfl h0.1 rfl (Nat.le_refl _) (Nat.le_of_ble_eq_true rfl) (e2 M1 w1 M2 w2) dX11_feed_18 (fun r3 M3 w3 => ?_)
  obtain ⟨rfl, w3⟩ := w3
  refine pg_aload_n (pc := 21) (i := 0) (j := 0) (x := 207) dX11_feed_21 rfl rfl ?_
  refine gfX11_11 (pc := 22) rfl h0 dX11_feed_22 ?_
  exact pg_iret (pc := 25) rfl dX11_feed_25 (k0 M1 w1 M2 w2 M3 w3)
theorem oX11_feed {d : Nat} {v1 : Int64} {v3 : Int64} {v5 : Int64} (h : pg_At S Λ YX11_feed d 0 [(0, .ref 207), (1, .long v1), (3, .long v3), (5, .long v5)] [] M P) : pg_Ev S Λ YX11_feed d [.ref 207, .long v1, .long v3, .long v5] M P := pg_Ev.of (by decide) (by first | decide | exact Nat.le_of_ble_eq_true rfl) h
theorem sX11_lay_0 {v1 : Int64} 
    (k0 : pg_At S Λ YX11_lay d 3 [(0, .ref 207), (1, .long v1), (3, .int 56)] [] M P) :
    pg_At S Λ YX11_lay d 0 [(0, .ref 207), (1, .long v1)] [] M P := by
  refine pg_bipush (pc := 0) (v := 56) dX11_lay_0 (by decide) ?_
  refine pg_istore_n (pc := 2) (i := 3) (ls' := [(3, .int 56), (0, .ref 207), (1, .long v1)]) dX11_lay_2 rfl (by decide) rfl ?_
  refine pg_drop (ks := [1, 2, 0]) (ls' := [(0, .ref 207), (1, .long v1), (3, .int 56)]) rfl ?_
  exact k0
theorem sX11_lay_3 {v1 : Int64} {v3 : Int32} 
    (h0 : pg_isX11 Λ)
    (k0 : (v3 < 0) → P none M)
    (k1 : (¬ v3 < 0) → ((((v1 >>> (v3.toInt64 &&& 63)).toInt32) &&& 255) = 10) → (1000 ≤ (M.1 207 2)) → pg_At S Λ YX11_lay d 3 [(0, .ref 207), (1, .long v1), (3, .int (v3 + (-8)))] [] M P)
    (b0 : (¬ v3 < 0) → ((((v1 >>> (v3.toInt64 &&& 63)).toInt32) &&& 255) = 10) → (¬ 1000 ≤ (M.1 207 2)) → vp_in (M.1 207 2) 1000)
    (k2 : (¬ v3 < 0) → ((((v1 >>> (v3.toInt64 &&& 63)).toInt32) &&& 255) = 10) → (¬ 1000 ≤ (M.1 207 2)) → ∀ N1, N1 = pg_si (pg_si M 208 (M.1 207 2).toNatClampNeg (((v1 >>> (v3.toInt64 &&& 63)).toInt32) &&& 255)) 207 2 (((pg_si M 208 (M.1 207 2).toNatClampNeg (((v1 >>> (v3.toInt64 &&& 63)).toInt32) &&& 255)).1 207 2) + 1) → pg_At S Λ YX11_lay d 3 [(0, .ref 207), (1, .long v1), (3, .int (v3 + (-8)))] [] N1 P)
    (k3 : (¬ v3 < 0) → (¬ (((v1 >>> (v3.toInt64 &&& 63)).toInt32) &&& 255) = 10) → ((((v1 >>> (v3.toInt64 &&& 63)).toInt32) &&& 255) < 32) → pg_At S Λ YX11_lay d 3 [(0, .ref 207), (1, .long v1), (3, .int (v3 + (-8)))] [] M P)
    (k4 : (¬ v3 < 0) → (¬ (((v1 >>> (v3.toInt64 &&& 63)).toInt32) &&& 255) = 10) → (¬ (((v1 >>> (v3.toInt64 &&& 63)).toInt32) &&& 255) < 32) → (126 < (((v1 >>> (v3.toInt64 &&& 63)).toInt32) &&& 255)) → pg_At S Λ YX11_lay d 3 [(0, .ref 207), (1, .long v1), (3, .int (v3 + (-8)))] [] M P)
    (k5 : (¬ v3 < 0) → (¬ (((v1 >>> (v3.toInt64 &&& 63)).toInt32) &&& 255) = 10) → (¬ (((v1 >>> (v3.toInt64 &&& 63)).toInt32) &&& 255) < 32) → (¬ 126 < (((v1 >>> (v3.toInt64 &&& 63)).toInt32) &&& 255)) → (1000 ≤ (M.1 207 2)) → pg_At S Λ YX11_lay d 3 [(0, .ref 207), (1, .long v1), (3, .int (v3 + (-8)))] [] M P)
    (b1 : (¬ v3 < 0) → (¬ (((v1 >>> (v3.toInt64 &&& 63)).toInt32) &&& 255) = 10) → (¬ (((v1 >>> (v3.toInt64 &&& 63)).toInt32) &&& 255) < 32) → (¬ 126 < (((v1 >>> (v3.toInt64 &&& 63)).toInt32) &&& 255)) → (¬ 1000 ≤ (M.1 207 2)) → vp_in (M.1 207 2) 1000)
    (k6 : (¬ v3 < 0) → (¬ (((v1 >>> (v3.toInt64 &&& 63)).toInt32) &&& 255) = 10) → (¬ (((v1 >>> (v3.toInt64 &&& 63)).toInt32) &&& 255) < 32) → (¬ 126 < (((v1 >>> (v3.toInt64 &&& 63)).toInt32) &&& 255)) → (¬ 1000 ≤ (M.1 207 2)) → ∀ N2, N2 = pg_si (pg_si M 208 (M.1 207 2).toNatClampNeg (((v1 >>> (v3.toInt64 &&& 63)).toInt32) &&& 255)) 207 2 (((pg_si M 208 (M.1 207 2).toNatClampNeg (((v1 >>> (v3.toInt64 &&& 63)).toInt32) &&& 255)).1 207 2) + 1) → pg_At S Λ YX11_lay d 3 [(0, .ref 207), (1, .long v1), (3, .int (v3 + (-8)))] [] N2 P) :
    pg_At S Λ YX11_lay d 3 [(0, .ref 207), (1, .long v1), (3, .int v3)] [] M P := by
  refine pg_iload_n (pc := 3) (i := 3) (j := 2) (x := v3) dX11_lay_3 rfl rfl ?_
  refine pg_if_lt (pc := 4) (tgt := 75) dX11_lay_4 (by decide) (fun c0 => ?_) (fun c0 => ?_)
  · skip
    exact pg_vret (pc := 75) rfl dX11_lay_75 (k0 c0)
  · skip
    refine pg_lload_n (pc := 7) (i := 1) (j := 1) (x := v1) dX11_lay_7 rfl rfl ?_
    refine pg_iload_n (pc := 8) (i := 3) (j := 2) (x := v3) dX11_lay_8 rfl rfl ?_
    refine pg_lshr (pc := 9) dX11_lay_9 rfl ?_
    refine pg_l2i (pc := 10) dX11_lay_10 rfl ?_
    refine pg_sipush (pc := 11) (v := 255) dX11_lay_11 (by decide) ?_
    refine pg_iand (pc := 14) dX11_lay_14 ?_
    refine pg_istore (pc := 15) (i := 4) (ls' := [(4, .int (((v1 >>> (v3.toInt64 &&& 63)).toInt32) &&& 255)), (0, .ref 207), (1, .long v1), (3, .int v3)]) dX11_lay_15 (by decide) rfl ?_
    refine pg_iload (pc := 17) (i := 4) (j := 0) (x := (((v1 >>> (v3.toInt64 &&& 63)).toInt32) &&& 255)) dX11_lay_17 rfl ?_
    refine pg_bipush (pc := 19) (v := 10) dX11_lay_19 (by decide) ?_
    refine pg_icmp_eq (pc := 21) (tgt := 38) dX11_lay_21 (by decide) (fun c1 => ?_) (fun c1 => ?_)
    · skip
      refine pg_aload_n (pc := 38) (i := 0) (j := 1) (x := 207) dX11_lay_38 rfl rfl ?_
      refine gfX11_11 (pc := 39) rfl h0 dX11_lay_39 ?_
      refine pg_sipush (pc := 42) (v := 1000) dX11_lay_42 (by decide) ?_
      refine pg_icmp_ge (pc := 45) (tgt := 69) dX11_lay_45 (by decide) (fun c2 => ?_) (fun c2 => ?_)
      · skip
        refine pg_iinc (pc := 69) (i := 3) (j := 3) (x := v3) (v := v3 + (-8)) (ls' := [(3, .int (v3 + (-8))), (4, .int (((v1 >>> (v3.toInt64 &&& 63)).toInt32) &&& 255)), (0, .ref 207), (1, .long v1)]) dX11_lay_69 rfl rfl (by decide) rfl ?_
        refine pg_goto (pc := 72) (tgt := 3) dX11_lay_72 (by decide) ?_
        refine pg_drop (ks := [2, 3, 0]) (ls' := [(0, .ref 207), (1, .long v1), (3, .int (v3 + (-8)))]) rfl ?_
        exact k1 c0 c1 c2
      · skip
        refine pg_aload_n (pc := 48) (i := 0) (j := 1) (x := 207) dX11_lay_48 rfl rfl ?_
        refine gfX11_14 (pc := 49) rfl h0 dX11_lay_49 ?_
        refine pg_aload_n (pc := 52) (i := 0) (j := 1) (x := 207) dX11_lay_52 rfl rfl ?_
        refine gfX11_11 (pc := 53) rfl h0 dX11_lay_53 ?_
        refine pg_iload (pc := 56) (i := 4) (j := 0) (x := (((v1 >>> (v3.toInt64 &&& 63)).toInt32) &&& 255)) dX11_lay_56 rfl ?_
        refine pg_iast (pc := 58) h0.2.1 (b0 c0 c1 c2) dX11_lay_58 ?_
        refine pg_aload_n (pc := 59) (i := 0) (j := 1) (x := 207) dX11_lay_59 rfl rfl ?_
        refine pg_dup (pc := 60) dX11_lay_60 rfl ?_
        refine gfX11_11 (pc := 61) rfl h0 dX11_lay_61 ?_
        refine pg_iconst (pc := 64) (v := 1) dX11_lay_64 (by decide) ?_
        refine pg_iadd (pc := 65) dX11_lay_65 ?_
        refine pfX11_11 (pc := 66) rfl h0 dX11_lay_66 ?_
        refine pg_named (fun N1 u1 => ?_)
        refine pg_iinc (pc := 69) (i := 3) (j := 3) (x := v3) (v := v3 + (-8)) (ls' := [(3, .int (v3 + (-8))), (4, .int (((v1 >>> (v3.toInt64 &&& 63)).toInt32) &&& 255)), (0, .ref 207), (1, .long v1)]) dX11_lay_69 rfl rfl (by decide) rfl ?_
        refine pg_goto (pc := 72) (tgt := 3) dX11_lay_72 (by decide) ?_
        refine pg_drop (ks := [2, 3, 0]) (ls' := [(0, .ref 207), (1, .long v1), (3, .int (v3 + (-8)))]) rfl ?_
        exact k2 c0 c1 c2 N1 u1
    · skip
      refine pg_iload (pc := 24) (i := 4) (j := 0) (x := (((v1 >>> (v3.toInt64 &&& 63)).toInt32) &&& 255)) dX11_lay_24 rfl ?_
      refine pg_bipush (pc := 26) (v := 32) dX11_lay_26 (by decide) ?_
      refine pg_icmp_lt (pc := 28) (tgt := 69) dX11_lay_28 (by decide) (fun c2 => ?_) (fun c2 => ?_)
      · skip
        refine pg_iinc (pc := 69) (i := 3) (j := 3) (x := v3) (v := v3 + (-8)) (ls' := [(3, .int (v3 + (-8))), (4, .int (((v1 >>> (v3.toInt64 &&& 63)).toInt32) &&& 255)), (0, .ref 207), (1, .long v1)]) dX11_lay_69 rfl rfl (by decide) rfl ?_
        refine pg_goto (pc := 72) (tgt := 3) dX11_lay_72 (by decide) ?_
        refine pg_drop (ks := [2, 3, 0]) (ls' := [(0, .ref 207), (1, .long v1), (3, .int (v3 + (-8)))]) rfl ?_
        exact k3 c0 c1 c2
      · skip
        refine pg_iload (pc := 31) (i := 4) (j := 0) (x := (((v1 >>> (v3.toInt64 &&& 63)).toInt32) &&& 255)) dX11_lay_31 rfl ?_
        refine pg_bipush (pc := 33) (v := 126) dX11_lay_33 (by decide) ?_
        refine pg_icmp_gt (pc := 35) (tgt := 69) dX11_lay_35 (by decide) (fun c3 => ?_) (fun c3 => ?_)
        · skip
          refine pg_iinc (pc := 69) (i := 3) (j := 3) (x := v3) (v := v3 + (-8)) (ls' := [(3, .int (v3 + (-8))), (4, .int (((v1 >>> (v3.toInt64 &&& 63)).toInt32) &&& 255)), (0, .ref 207), (1, .long v1)]) dX11_lay_69 rfl rfl (by decide) rfl ?_
          refine pg_goto (pc := 72) (tgt := 3) dX11_lay_72 (by decide) ?_
          refine pg_drop (ks := [2, 3, 0]) (ls' := [(0, .ref 207), (1, .long v1), (3, .int (v3 + (-8)))]) rfl ?_
          exact k4 c0 c1 c2 c3
        · skip
          refine pg_aload_n (pc := 38) (i := 0) (j := 1) (x := 207) dX11_lay_38 rfl rfl ?_
          refine gfX11_11 (pc := 39) rfl h0 dX11_lay_39 ?_
          refine pg_sipush (pc := 42) (v := 1000) dX11_lay_42 (by decide) ?_
          refine pg_icmp_ge (pc := 45) (tgt := 69) dX11_lay_45 (by decide) (fun c4 => ?_) (fun c4 => ?_)
          · skip
            refine pg_iinc (pc := 69) (i := 3) (j := 3) (x := v3) (v := v3 + (-8)) (ls' := [(3, .int (v3 + (-8))), (4, .int (((v1 >>> (v3.toInt64 &&& 63)).toInt32) &&& 255)), (0, .ref 207), (1, .long v1)]) dX11_lay_69 rfl rfl (by decide) rfl ?_
            refine pg_goto (pc := 72) (tgt := 3) dX11_lay_72 (by decide) ?_
            refine pg_drop (ks := [2, 3, 0]) (ls' := [(0, .ref 207), (1, .long v1), (3, .int (v3 + (-8)))]) rfl ?_
            exact k5 c0 c1 c2 c3 c4
          · skip
            refine pg_aload_n (pc := 48) (i := 0) (j := 1) (x := 207) dX11_lay_48 rfl rfl ?_
            refine gfX11_14 (pc := 49) rfl h0 dX11_lay_49 ?_
            refine pg_aload_n (pc := 52) (i := 0) (j := 1) (x := 207) dX11_lay_52 rfl rfl ?_
            refine gfX11_11 (pc := 53) rfl h0 dX11_lay_53 ?_
            refine pg_iload (pc := 56) (i := 4) (j := 0) (x := (((v1 >>> (v3.toInt64 &&& 63)).toInt32) &&& 255)) dX11_lay_56 rfl ?_
            refine pg_iast (pc := 58) h0.2.1 (b1 c0 c1 c2 c3 c4) dX11_lay_58 ?_
            refine pg_aload_n (pc := 59) (i := 0) (j := 1) (x := 207) dX11_lay_59 rfl rfl ?_
            refine pg_dup (pc := 60) dX11_lay_60 rfl ?_
            refine gfX11_11 (pc := 61) rfl h0 dX11_lay_61 ?_
            refine pg_iconst (pc := 64) (v := 1) dX11_lay_64 (by decide) ?_
            refine pg_iadd (pc := 65) dX11_lay_65 ?_
            refine pfX11_11 (pc := 66) rfl h0 dX11_lay_66 ?_
            refine pg_named (fun N2 u2 => ?_)
            refine pg_iinc (pc := 69) (i := 3) (j := 3) (x := v3) (v := v3 + (-8)) (ls' := [(3, .int (v3 + (-8))), (4, .int (((v1 >>> (v3.toInt64 &&& 63)).toInt32) &&& 255)), (0, .ref 207), (1, .long v1)]) dX11_lay_69 rfl rfl (by decide) rfl ?_
            refine pg_goto (pc := 72) (tgt := 3) dX11_lay_72 (by decide) ?_
            refine pg_drop (ks := [2, 3, 0]) (ls' := [(0, .ref 207), (1, .long v1), (3, .int (v3 + (-8)))]) rfl ?_
            exact k6 c0 c1 c2 c3 c4 N2 u2
theorem oX11_lay {d : Nat} {v1 : Int64} (h : pg_At S Λ YX11_lay d 0 [(0, .ref 207), (1, .long v1)] [] M P) : pg_Ev S Λ YX11_lay d [.ref 207, .long v1] M P := pg_Ev.of (by decide) (by first | decide | exact Nat.le_of_ble_eq_true rfl) h
theorem sX11_isLetter_0 {v0 : Int32} 
    (k0 : (v0 < 97) → P (some (.int 0)) M)
    (k1 : (¬ v0 < 97) → (122 < v0) → P (some (.int 0)) M)
    (k2 : (¬ v0 < 97) → (¬ 122 < v0) → P (some (.int 1)) M) :
    pg_At S Λ YX11_isLetter d 0 [(0, .int v0)] [] M P := by
  refine pg_iload_n (pc := 0) (i := 0) (j := 0) (x := v0) dX11_isLetter_0 rfl rfl ?_
  refine pg_bipush (pc := 1) (v := 97) dX11_isLetter_1 (by decide) ?_
  refine pg_icmp_lt (pc := 3) (tgt := 16) dX11_isLetter_3 (by decide) (fun c0 => ?_) (fun c0 => ?_)
  · skip
    refine pg_iconst (pc := 16) (v := 0) dX11_isLetter_16 (by decide) ?_
    exact pg_zret (pc := 17) rfl rfl dX11_isLetter_17 (k0 c0)
  · skip
    refine pg_iload_n (pc := 6) (i := 0) (j := 0) (x := v0) dX11_isLetter_6 rfl rfl ?_
    refine pg_bipush (pc := 7) (v := 122) dX11_isLetter_7 (by decide) ?_
    refine pg_icmp_gt (pc := 9) (tgt := 16) dX11_isLetter_9 (by decide) (fun c1 => ?_) (fun c1 => ?_)
    · skip
      refine pg_iconst (pc := 16) (v := 0) dX11_isLetter_16 (by decide) ?_
      exact pg_zret (pc := 17) rfl rfl dX11_isLetter_17 (k1 c0 c1)
    · skip
      refine pg_iconst (pc := 12) (v := 1) dX11_isLetter_12 (by decide) ?_
      refine pg_goto (pc := 13) (tgt := 17) dX11_isLetter_13 (by decide) ?_
      exact pg_zret (pc := 17) rfl rfl dX11_isLetter_17 (k2 c0 c1)
theorem oX11_isLetter {d : Nat} {v0 : Int32} (h : pg_At S Λ YX11_isLetter d 0 [(0, .int v0)] [] M P) : pg_Ev S Λ YX11_isLetter d [.int v0] M P := pg_Ev.of (by decide) (by first | decide | exact Nat.le_of_ble_eq_true rfl) h
theorem sX11_isDigit_0 {v0 : Int32} 
    (k0 : (v0 < 48) → P (some (.int 0)) M)
    (k1 : (¬ v0 < 48) → (57 < v0) → P (some (.int 0)) M)
    (k2 : (¬ v0 < 48) → (¬ 57 < v0) → P (some (.int 1)) M) :
    pg_At S Λ YX11_isDigit d 0 [(0, .int v0)] [] M P := by
  refine pg_iload_n (pc := 0) (i := 0) (j := 0) (x := v0) dX11_isDigit_0 rfl rfl ?_
  refine pg_bipush (pc := 1) (v := 48) dX11_isDigit_1 (by decide) ?_
  refine pg_icmp_lt (pc := 3) (tgt := 16) dX11_isDigit_3 (by decide) (fun c0 => ?_) (fun c0 => ?_)
  · skip
    refine pg_iconst (pc := 16) (v := 0) dX11_isDigit_16 (by decide) ?_
    exact pg_zret (pc := 17) rfl rfl dX11_isDigit_17 (k0 c0)
  · skip
    refine pg_iload_n (pc := 6) (i := 0) (j := 0) (x := v0) dX11_isDigit_6 rfl rfl ?_
    refine pg_bipush (pc := 7) (v := 57) dX11_isDigit_7 (by decide) ?_
    refine pg_icmp_gt (pc := 9) (tgt := 16) dX11_isDigit_9 (by decide) (fun c1 => ?_) (fun c1 => ?_)
    · skip
      refine pg_iconst (pc := 16) (v := 0) dX11_isDigit_16 (by decide) ?_
      exact pg_zret (pc := 17) rfl rfl dX11_isDigit_17 (k1 c0 c1)
    · skip
      refine pg_iconst (pc := 12) (v := 1) dX11_isDigit_12 (by decide) ?_
      refine pg_goto (pc := 13) (tgt := 17) dX11_isDigit_13 (by decide) ?_
      exact pg_zret (pc := 17) rfl rfl dX11_isDigit_17 (k2 c0 c1)
theorem oX11_isDigit {d : Nat} {v0 : Int32} (h : pg_At S Λ YX11_isDigit d 0 [(0, .int v0)] [] M P) : pg_Ev S Λ YX11_isDigit d [.int v0] M P := pg_Ev.of (by decide) (by first | decide | exact Nat.le_of_ble_eq_true rfl) h
theorem sX11_rank_0 {v0 : Int32} {Q0 : Int32 → pg_M → Prop}
    (e0 : pg_Ev S Λ YX11_isLetter d [.int v0] M (fun r M' => ∃ x, r = some (.int x) ∧ Q0 x M'))
    (k0 : ∀ x1 M1, Q0 x1 M1 → (x1 = 0) → P (some (.int (v0 - 21))) M1)
    (k1 : ∀ x1 M1, Q0 x1 M1 → (¬ x1 = 0) → P (some (.int (v0 - 96))) M1) :
    pg_At S Λ YX11_rank (d + 1) 0 [(0, .int v0)] [] M P := by
  refine pg_iload_n (pc := 0) (i := 0) (j := 0) (x := v0) dX11_rank_0 rfl rfl ?_
  refine pg_callS (pc := 1) (As := [.int v0]) (st := []) okX11_isLetter lkX11_151 rfl (Nat.le_refl _) (Nat.le_of_ble_eq_true rfl) e0 dX11_rank_1 (fun r1 M1 w1 => ?_)
  obtain ⟨x1, rfl, w1⟩ := w1
  refine pg_if_eq (pc := 4) (tgt := 14) dX11_rank_4 (by decide) (fun c0 => ?_) (fun c0 => ?_)
  · skip
    refine pg_iload_n (pc := 14) (i := 0) (j := 0) (x := v0) dX11_rank_14 rfl rfl ?_
    refine pg_bipush (pc := 15) (v := 21) dX11_rank_15 (by decide) ?_
    refine pg_isub (pc := 17) dX11_rank_17 ?_
    exact pg_iret (pc := 18) rfl dX11_rank_18 (k0 x1 M1 w1 c0)
  · skip
    refine pg_iload_n (pc := 7) (i := 0) (j := 0) (x := v0) dX11_rank_7 rfl rfl ?_
    refine pg_bipush (pc := 8) (v := 96) dX11_rank_8 (by decide) ?_
    refine pg_isub (pc := 10) dX11_rank_10 ?_
    refine pg_goto (pc := 11) (tgt := 18) dX11_rank_11 (by decide) ?_
    exact pg_iret (pc := 18) rfl dX11_rank_18 (k1 x1 M1 w1 c0)
theorem oX11_rank {d : Nat} {v0 : Int32} (h : pg_At S Λ YX11_rank d 0 [(0, .int v0)] [] M P) : pg_Ev S Λ YX11_rank d [.int v0] M P := pg_Ev.of (by decide) (by first | decide | exact Nat.le_of_ble_eq_true rfl) h
theorem sX11_isSignOf_0 {v0 : Int32} 
    (k0 : (v0 = 40) → P (some (.int 1)) M)
    (k1 : (¬ v0 = 40) → (v0 = 41) → P (some (.int 1)) M)
    (k2 : (¬ v0 = 40) → (¬ v0 = 41) → (v0 = 59) → P (some (.int 1)) M)
    (k3 : (¬ v0 = 40) → (¬ v0 = 41) → (¬ v0 = 59) → (v0 = 61) → P (some (.int 1)) M)
    (k4 : (¬ v0 = 40) → (¬ v0 = 41) → (¬ v0 = 59) → (¬ v0 = 61) → (v0 = 60) → P (some (.int 1)) M)
    (k5 : (¬ v0 = 40) → (¬ v0 = 41) → (¬ v0 = 59) → (¬ v0 = 61) → (¬ v0 = 60) → (v0 = 43) → P (some (.int 1)) M)
    (k6 : (¬ v0 = 40) → (¬ v0 = 41) → (¬ v0 = 59) → (¬ v0 = 61) → (¬ v0 = 60) → (¬ v0 = 43) → (v0 = 45) → P (some (.int 1)) M)
    (k7 : (¬ v0 = 40) → (¬ v0 = 41) → (¬ v0 = 59) → (¬ v0 = 61) → (¬ v0 = 60) → (¬ v0 = 43) → (¬ v0 = 45) → (¬ v0 = 42) → P (some (.int 0)) M)
    (k8 : (¬ v0 = 40) → (¬ v0 = 41) → (¬ v0 = 59) → (¬ v0 = 61) → (¬ v0 = 60) → (¬ v0 = 43) → (¬ v0 = 45) → (v0 = 42) → P (some (.int 1)) M) :
    pg_At S Λ YX11_isSignOf d 0 [(0, .int v0)] [] M P := by
  refine pg_iload_n (pc := 0) (i := 0) (j := 0) (x := v0) dX11_isSignOf_0 rfl rfl ?_
  refine pg_bipush (pc := 1) (v := 40) dX11_isSignOf_1 (by decide) ?_
  refine pg_icmp_eq (pc := 3) (tgt := 48) dX11_isSignOf_3 (by decide) (fun c0 => ?_) (fun c0 => ?_)
  · skip
    refine pg_iconst (pc := 48) (v := 1) dX11_isSignOf_48 (by decide) ?_
    refine pg_goto (pc := 49) (tgt := 53) dX11_isSignOf_49 (by decide) ?_
    exact pg_zret (pc := 53) rfl rfl dX11_isSignOf_53 (k0 c0)
  · skip
    refine pg_iload_n (pc := 6) (i := 0) (j := 0) (x := v0) dX11_isSignOf_6 rfl rfl ?_
    refine pg_bipush (pc := 7) (v := 41) dX11_isSignOf_7 (by decide) ?_
    refine pg_icmp_eq (pc := 9) (tgt := 48) dX11_isSignOf_9 (by decide) (fun c1 => ?_) (fun c1 => ?_)
    · skip
      refine pg_iconst (pc := 48) (v := 1) dX11_isSignOf_48 (by decide) ?_
      refine pg_goto (pc := 49) (tgt := 53) dX11_isSignOf_49 (by decide) ?_
      exact pg_zret (pc := 53) rfl rfl dX11_isSignOf_53 (k1 c0 c1)
    · skip
      refine pg_iload_n (pc := 12) (i := 0) (j := 0) (x := v0) dX11_isSignOf_12 rfl rfl ?_
      refine pg_bipush (pc := 13) (v := 59) dX11_isSignOf_13 (by decide) ?_
      refine pg_icmp_eq (pc := 15) (tgt := 48) dX11_isSignOf_15 (by decide) (fun c2 => ?_) (fun c2 => ?_)
      · skip
        refine pg_iconst (pc := 48) (v := 1) dX11_isSignOf_48 (by decide) ?_
        refine pg_goto (pc := 49) (tgt := 53) dX11_isSignOf_49 (by decide) ?_
        exact pg_zret (pc := 53) rfl rfl dX11_isSignOf_53 (k2 c0 c1 c2)
      · skip
        refine pg_iload_n (pc := 18) (i := 0) (j := 0) (x := v0) dX11_isSignOf_18 rfl rfl ?_
        refine pg_bipush (pc := 19) (v := 61) dX11_isSignOf_19 (by decide) ?_
        refine pg_icmp_eq (pc := 21) (tgt := 48) dX11_isSignOf_21 (by decide) (fun c3 => ?_) (fun c3 => ?_)
        · skip
          refine pg_iconst (pc := 48) (v := 1) dX11_isSignOf_48 (by decide) ?_
          refine pg_goto (pc := 49) (tgt := 53) dX11_isSignOf_49 (by decide) ?_
          exact pg_zret (pc := 53) rfl rfl dX11_isSignOf_53 (k3 c0 c1 c2 c3)
        · skip
          refine pg_iload_n (pc := 24) (i := 0) (j := 0) (x := v0) dX11_isSignOf_24 rfl rfl ?_
          refine pg_bipush (pc := 25) (v := 60) dX11_isSignOf_25 (by decide) ?_
          refine pg_icmp_eq (pc := 27) (tgt := 48) dX11_isSignOf_27 (by decide) (fun c4 => ?_) (fun c4 => ?_)
          · skip
            refine pg_iconst (pc := 48) (v := 1) dX11_isSignOf_48 (by decide) ?_
            refine pg_goto (pc := 49) (tgt := 53) dX11_isSignOf_49 (by decide) ?_
            exact pg_zret (pc := 53) rfl rfl dX11_isSignOf_53 (k4 c0 c1 c2 c3 c4)
          · skip
            refine pg_iload_n (pc := 30) (i := 0) (j := 0) (x := v0) dX11_isSignOf_30 rfl rfl ?_
            refine pg_bipush (pc := 31) (v := 43) dX11_isSignOf_31 (by decide) ?_
            refine pg_icmp_eq (pc := 33) (tgt := 48) dX11_isSignOf_33 (by decide) (fun c5 => ?_) (fun c5 => ?_)
            · skip
              refine pg_iconst (pc := 48) (v := 1) dX11_isSignOf_48 (by decide) ?_
              refine pg_goto (pc := 49) (tgt := 53) dX11_isSignOf_49 (by decide) ?_
              exact pg_zret (pc := 53) rfl rfl dX11_isSignOf_53 (k5 c0 c1 c2 c3 c4 c5)
            · skip
              refine pg_iload_n (pc := 36) (i := 0) (j := 0) (x := v0) dX11_isSignOf_36 rfl rfl ?_
              refine pg_bipush (pc := 37) (v := 45) dX11_isSignOf_37 (by decide) ?_
              refine pg_icmp_eq (pc := 39) (tgt := 48) dX11_isSignOf_39 (by decide) (fun c6 => ?_) (fun c6 => ?_)
              · skip
                refine pg_iconst (pc := 48) (v := 1) dX11_isSignOf_48 (by decide) ?_
                refine pg_goto (pc := 49) (tgt := 53) dX11_isSignOf_49 (by decide) ?_
                exact pg_zret (pc := 53) rfl rfl dX11_isSignOf_53 (k6 c0 c1 c2 c3 c4 c5 c6)
              · skip
                refine pg_iload_n (pc := 42) (i := 0) (j := 0) (x := v0) dX11_isSignOf_42 rfl rfl ?_
                refine pg_bipush (pc := 43) (v := 42) dX11_isSignOf_43 (by decide) ?_
                refine pg_icmp_ne (pc := 45) (tgt := 52) dX11_isSignOf_45 (by decide) (fun c7 => ?_) (fun c7 => ?_)
                · skip
                  refine pg_iconst (pc := 52) (v := 0) dX11_isSignOf_52 (by decide) ?_
                  exact pg_zret (pc := 53) rfl rfl dX11_isSignOf_53 (k7 c0 c1 c2 c3 c4 c5 c6 c7)
                · skip
                  refine pg_iconst (pc := 48) (v := 1) dX11_isSignOf_48 (by decide) ?_
                  refine pg_goto (pc := 49) (tgt := 53) dX11_isSignOf_49 (by decide) ?_
                  exact pg_zret (pc := 53) rfl rfl dX11_isSignOf_53 (k8 c0 c1 c2 c3 c4 c5 c6 c7)
theorem oX11_isSignOf {d : Nat} {v0 : Int32} (h : pg_At S Λ YX11_isSignOf d 0 [(0, .int v0)] [] M P) : pg_Ev S Λ YX11_isSignOf d [.int v0] M P := pg_Ev.of (by decide) (by first | decide | exact Nat.le_of_ble_eq_true rfl) h
theorem sX11_cutAll_0  
    (h0 : pg_isX11 Λ)
    (k0 : pg_At S Λ YX11_cutAll (d + 1) 17 [(0, .ref 207), (1, .int 0), (2, .int 0)] [] (pg_si (pg_si M 207 3 (M.1 207 2)) 207 2 0) P) :
    pg_At S Λ YX11_cutAll (d + 1) 0 [(0, .ref 207)] [] M P := by
  refine pg_aload_n (pc := 0) (i := 0) (j := 0) (x := 207) dX11_cutAll_0 rfl rfl ?_
  refine pg_aload_n (pc := 1) (i := 0) (j := 0) (x := 207) dX11_cutAll_1 rfl rfl ?_
  refine gfX11_11 (pc := 2) rfl h0 dX11_cutAll_2 ?_
  refine pfX11_155 (pc := 5) rfl h0 dX11_cutAll_5 ?_
  refine pg_aload_n (pc := 8) (i := 0) (j := 0) (x := 207) dX11_cutAll_8 rfl rfl ?_
  refine pg_iconst (pc := 9) (v := 0) dX11_cutAll_9 (by decide) ?_
  refine pfX11_11 (pc := 10) rfl h0 dX11_cutAll_10 ?_
  refine pg_iconst (pc := 13) (v := 0) dX11_cutAll_13 (by decide) ?_
  refine pg_istore_n (pc := 14) (i := 1) (ls' := [(1, .int 0), (0, .ref 207)]) dX11_cutAll_14 rfl (by decide) rfl ?_
  refine pg_iconst (pc := 15) (v := 0) dX11_cutAll_15 (by decide) ?_
  refine pg_istore_n (pc := 16) (i := 2) (ls' := [(2, .int 0), (1, .int 0), (0, .ref 207)]) dX11_cutAll_16 rfl (by decide) rfl ?_
  refine pg_drop (ks := [2, 1, 0]) (ls' := [(0, .ref 207), (1, .int 0), (2, .int 0)]) rfl ?_
  exact k0
theorem sX11_cutAll_17 {v1 : Int32} {v2 : Int32} {Q0 : Int32 → pg_M → Prop} {Q1 : Int32 → pg_M → Prop} {Q2 : Int32 → pg_M → Prop}
    (h0 : pg_isX11 Λ)
    (b0 : ((M.1 207 3) ≤ v2) → vp_in v1 1002)
    (k0 : ((M.1 207 3) ≤ v2) → ∀ N1, N1 = pg_si (pg_si (pg_si M 209 v1.toNatClampNeg 0) 210 v1.toNatClampNeg ((pg_si M 209 v1.toNatClampNeg 0).1 207 3)) 207 7 0 → P none (pg_si N1 207 8 0))
    (b1 : (¬ (M.1 207 3) ≤ v2) → vp_in v2 1000)
    (k1 : (¬ (M.1 207 3) ≤ v2) → ((M.1 208 v2.toNatClampNeg) = 10) → pg_At S Λ YX11_cutAll (d + 1) 17 [(0, .ref 207), (1, .int v1), (2, .int (v2 + 1))] [] M P)
    (b2 : (¬ (M.1 207 3) ≤ v2) → (¬ (M.1 208 v2.toNatClampNeg) = 10) → (¬ (M.1 208 v2.toNatClampNeg) = 32) → vp_in v1 1002)
    (e0 : (¬ (M.1 207 3) ≤ v2) → (¬ (M.1 208 v2.toNatClampNeg) = 10) → (¬ (M.1 208 v2.toNatClampNeg) = 32) → pg_Ev S Λ YX11_isLetter d [.int (M.1 208 v2.toNatClampNeg)] (pg_si M 210 v1.toNatClampNeg v2) (fun r M' => ∃ x, r = some (.int x) ∧ Q0 x M'))
    (e1 : (¬ (M.1 207 3) ≤ v2) → (¬ (M.1 208 v2.toNatClampNeg) = 10) → (¬ (M.1 208 v2.toNatClampNeg) = 32) → ∀ x1 M1, Q0 x1 M1 → (x1 = 0) → pg_Ev S Λ YX11_isDigit d [.int (M.1 208 v2.toNatClampNeg)] M1 (fun r M' => ∃ x, r = some (.int x) ∧ Q1 x M'))
    (e2 : (¬ (M.1 207 3) ≤ v2) → (¬ (M.1 208 v2.toNatClampNeg) = 10) → (¬ (M.1 208 v2.toNatClampNeg) = 32) → ∀ x1 M1, Q0 x1 M1 → (x1 = 0) → ∀ x2 M2, Q1 x2 M2 → (x2 = 0) → pg_Ev S Λ YX11_isSignOf d [.int (M.1 208 v2.toNatClampNeg)] M2 (fun r M' => ∃ x, r = some (.int x) ∧ Q2 x M'))
    (k2 : (¬ (M.1 207 3) ≤ v2) → (¬ (M.1 208 v2.toNatClampNeg) = 10) → (¬ (M.1 208 v2.toNatClampNeg) = 32) → ∀ x1 M1, Q0 x1 M1 → (x1 = 0) → ∀ x2 M2, Q1 x2 M2 → (x2 = 0) → ∀ x3 M3, Q2 x3 M3 → (x3 = 0) → pg_At S Λ YX11_cutAll (d + 1) 17 [(0, .ref 207), (1, .int (v1 + 1)), (2, .int (v2 + 1))] [] (pg_sj (pg_si M3 209 v1.toNatClampNeg 4) 211 v1.toNatClampNeg ((M.1 208 v2.toNatClampNeg).toInt64)) P)
    (k3 : (¬ (M.1 207 3) ≤ v2) → (¬ (M.1 208 v2.toNatClampNeg) = 10) → (¬ (M.1 208 v2.toNatClampNeg) = 32) → ∀ x1 M1, Q0 x1 M1 → (x1 = 0) → ∀ x2 M2, Q1 x2 M2 → (x2 = 0) → ∀ x3 M3, Q2 x3 M3 → (¬ x3 = 0) → pg_At S Λ YX11_cutAll (d + 1) 17 [(0, .ref 207), (1, .int (v1 + 1)), (2, .int (v2 + 1))] [] (pg_sj (pg_si M3 209 v1.toNatClampNeg 3) 211 v1.toNatClampNeg ((M.1 208 v2.toNatClampNeg).toInt64)) P)
    (k4 : (¬ (M.1 207 3) ≤ v2) → (¬ (M.1 208 v2.toNatClampNeg) = 10) → (¬ (M.1 208 v2.toNatClampNeg) = 32) → ∀ x1 M1, Q0 x1 M1 → (x1 = 0) → ∀ x2 M2, Q1 x2 M2 → (¬ x2 = 0) → pg_At S Λ YX11_cutAll (d + 1) 159 [(0, .ref 207), (1, .int v1), (2, .int v2), (4, .int v2), (5, .long 0)] [] M2 P)
    (k5 : (¬ (M.1 207 3) ≤ v2) → (¬ (M.1 208 v2.toNatClampNeg) = 10) → (¬ (M.1 208 v2.toNatClampNeg) = 32) → ∀ x1 M1, Q0 x1 M1 → (¬ x1 = 0) → pg_At S Λ YX11_cutAll (d + 1) 70 [(0, .ref 207), (1, .int v1), (2, .int v2), (4, .int v2), (5, .long 0)] [] M1 P)
    (k6 : (¬ (M.1 207 3) ≤ v2) → (¬ (M.1 208 v2.toNatClampNeg) = 10) → ((M.1 208 v2.toNatClampNeg) = 32) → pg_At S Λ YX11_cutAll (d + 1) 17 [(0, .ref 207), (1, .int v1), (2, .int (v2 + 1))] [] M P) :
    pg_At S Λ YX11_cutAll (d + 1) 17 [(0, .ref 207), (1, .int v1), (2, .int v2)] [] M P := by
  refine pg_iload_n (pc := 17) (i := 2) (j := 2) (x := v2) dX11_cutAll_17 rfl rfl ?_
  refine pg_aload_n (pc := 18) (i := 0) (j := 0) (x := 207) dX11_cutAll_18 rfl rfl ?_
  refine gfX11_155 (pc := 19) rfl h0 dX11_cutAll_19 ?_
  refine pg_icmp_ge (pc := 22) (tgt := 279) dX11_cutAll_22 (by decide) (fun c0 => ?_) (fun c0 => ?_)
  · skip
    refine pg_aload_n (pc := 279) (i := 0) (j := 0) (x := 207) dX11_cutAll_279 rfl rfl ?_
    refine gfX11_24 (pc := 280) rfl h0 dX11_cutAll_280 ?_
    refine pg_iload_n (pc := 283) (i := 1) (j := 1) (x := v1) dX11_cutAll_283 rfl rfl ?_
    refine pg_iconst (pc := 284) (v := 0) dX11_cutAll_284 (by decide) ?_
    refine pg_iast (pc := 285) h0.2.2.1 (b0 c0) dX11_cutAll_285 ?_
    refine pg_aload_n (pc := 286) (i := 0) (j := 0) (x := 207) dX11_cutAll_286 rfl rfl ?_
    refine gfX11_27 (pc := 287) rfl h0 dX11_cutAll_287 ?_
    refine pg_iload_n (pc := 290) (i := 1) (j := 1) (x := v1) dX11_cutAll_290 rfl rfl ?_
    refine pg_aload_n (pc := 291) (i := 0) (j := 0) (x := 207) dX11_cutAll_291 rfl rfl ?_
    refine gfX11_155 (pc := 292) rfl h0 dX11_cutAll_292 ?_
    refine pg_iast (pc := 295) h0.2.2.2.1 (b0 c0) dX11_cutAll_295 ?_
    refine pg_aload_n (pc := 296) (i := 0) (j := 0) (x := 207) dX11_cutAll_296 rfl rfl ?_
    refine pg_iconst (pc := 297) (v := 0) dX11_cutAll_297 (by decide) ?_
    refine pfX11_174 (pc := 298) rfl h0 dX11_cutAll_298 ?_
    refine pg_named (fun N1 u1 => ?_)
    refine pg_aload_n (pc := 301) (i := 0) (j := 0) (x := 207) dX11_cutAll_301 rfl rfl ?_
    refine pg_iconst (pc := 302) (v := 0) dX11_cutAll_302 (by decide) ?_
    refine pfX11_177 (pc := 303) rfl h0 dX11_cutAll_303 ?_
    exact pg_vret (pc := 306) rfl dX11_cutAll_306 (k0 c0 N1 u1)
  · skip
    refine pg_aload_n (pc := 25) (i := 0) (j := 0) (x := 207) dX11_cutAll_25 rfl rfl ?_
    refine gfX11_14 (pc := 26) rfl h0 dX11_cutAll_26 ?_
    refine pg_iload_n (pc := 29) (i := 2) (j := 2) (x := v2) dX11_cutAll_29 rfl rfl ?_
    refine pg_iald (pc := 30) h0.2.1 (b1 c0) dX11_cutAll_30 ?_
    refine pg_istore_n (pc := 31) (i := 3) (ls' := [(3, .int (M.1 208 v2.toNatClampNeg)), (0, .ref 207), (1, .int v1), (2, .int v2)]) dX11_cutAll_31 rfl (by decide) rfl ?_
    refine pg_iload_n (pc := 32) (i := 3) (j := 0) (x := (M.1 208 v2.toNatClampNeg)) dX11_cutAll_32 rfl rfl ?_
    refine pg_bipush (pc := 33) (v := 10) dX11_cutAll_33 (by decide) ?_
    refine pg_icmp_eq (pc := 35) (tgt := 44) dX11_cutAll_35 (by decide) (fun c1 => ?_) (fun c1 => ?_)
    · skip
      refine pg_iinc (pc := 44) (i := 2) (j := 3) (x := v2) (v := v2 + 1) (ls' := [(2, .int (v2 + 1)), (3, .int (M.1 208 v2.toNatClampNeg)), (0, .ref 207), (1, .int v1)]) dX11_cutAll_44 rfl rfl (by decide) rfl ?_
      refine pg_goto (pc := 47) (tgt := 17) dX11_cutAll_47 (by decide) ?_
      refine pg_drop (ks := [2, 3, 0]) (ls' := [(0, .ref 207), (1, .int v1), (2, .int (v2 + 1))]) rfl ?_
      exact k1 c0 c1
    · skip
      refine pg_iload_n (pc := 38) (i := 3) (j := 0) (x := (M.1 208 v2.toNatClampNeg)) dX11_cutAll_38 rfl rfl ?_
      refine pg_bipush (pc := 39) (v := 32) dX11_cutAll_39 (by decide) ?_
      refine pg_icmp_ne (pc := 41) (tgt := 50) dX11_cutAll_41 (by decide) (fun c2 => ?_) (fun c2 => ?_)
      · skip
        refine pg_iload_n (pc := 50) (i := 2) (j := 3) (x := v2) dX11_cutAll_50 rfl rfl ?_
        refine pg_istore (pc := 51) (i := 4) (ls' := [(4, .int v2), (3, .int (M.1 208 v2.toNatClampNeg)), (0, .ref 207), (1, .int v1), (2, .int v2)]) dX11_cutAll_51 (by decide) rfl ?_
        refine pg_lconst (pc := 53) (v := 0) dX11_cutAll_53 (by decide) ?_
        refine pg_lstore (pc := 54) (i := 5) (ls' := [(5, .long 0), (4, .int v2), (3, .int (M.1 208 v2.toNatClampNeg)), (0, .ref 207), (1, .int v1), (2, .int v2)]) dX11_cutAll_54 (by decide) rfl ?_
        refine pg_aload_n (pc := 56) (i := 0) (j := 3) (x := 207) dX11_cutAll_56 rfl rfl ?_
        refine gfX11_27 (pc := 57) rfl h0 dX11_cutAll_57 ?_
        refine pg_iload_n (pc := 60) (i := 1) (j := 4) (x := v1) dX11_cutAll_60 rfl rfl ?_
        refine pg_iload_n (pc := 61) (i := 2) (j := 5) (x := v2) dX11_cutAll_61 rfl rfl ?_
        refine pg_iast (pc := 62) h0.2.2.2.1 (b2 c0 c1 c2) dX11_cutAll_62 ?_
        refine pg_iload_n (pc := 63) (i := 3) (j := 2) (x := (M.1 208 v2.toNatClampNeg)) dX11_cutAll_63 rfl rfl ?_
        refine pg_callS (pc := 64) (As := [.int (M.1 208 v2.toNatClampNeg)]) (st := []) okX11_isLetter lkX11_151 rfl (Nat.le_refl _) (Nat.le_of_ble_eq_true rfl) (e0 c0 c1 c2) dX11_cutAll_64 (fun r1 M1 w1 => ?_)
        obtain ⟨x1, rfl, w1⟩ := w1
        refine pg_if_eq (pc := 67) (tgt := 152) dX11_cutAll_67 (by decide) (fun c3 => ?_) (fun c3 => ?_)
        · skip
          refine pg_iload_n (pc := 152) (i := 3) (j := 2) (x := (M.1 208 v2.toNatClampNeg)) dX11_cutAll_152 rfl rfl ?_
          refine pg_callS (pc := 153) (As := [.int (M.1 208 v2.toNatClampNeg)]) (st := []) okX11_isDigit lkX11_164 rfl (Nat.le_refl _) (Nat.le_of_ble_eq_true rfl) (e1 c0 c1 c2 x1 M1 w1 c3) dX11_cutAll_153 (fun r2 M2 w2 => ?_)
          obtain ⟨x2, rfl, w2⟩ := w2
          refine pg_if_eq (pc := 156) (tgt := 240) dX11_cutAll_156 (by decide) (fun c4 => ?_) (fun c4 => ?_)
          · skip
            refine pg_iload_n (pc := 240) (i := 3) (j := 2) (x := (M.1 208 v2.toNatClampNeg)) dX11_cutAll_240 rfl rfl ?_
            refine pg_i2l (pc := 241) dX11_cutAll_241 rfl ?_
            refine pg_lstore (pc := 242) (i := 5) (ls' := [(5, .long ((M.1 208 v2.toNatClampNeg).toInt64)), (4, .int v2), (3, .int (M.1 208 v2.toNatClampNeg)), (0, .ref 207), (1, .int v1), (2, .int v2)]) dX11_cutAll_242 (by decide) rfl ?_
            refine pg_aload_n (pc := 244) (i := 0) (j := 3) (x := 207) dX11_cutAll_244 rfl rfl ?_
            refine gfX11_24 (pc := 245) rfl h0 dX11_cutAll_245 ?_
            refine pg_iload_n (pc := 248) (i := 1) (j := 4) (x := v1) dX11_cutAll_248 rfl rfl ?_
            refine pg_iload_n (pc := 249) (i := 3) (j := 2) (x := (M.1 208 v2.toNatClampNeg)) dX11_cutAll_249 rfl rfl ?_
            refine pg_callS (pc := 250) (As := [.int (M.1 208 v2.toNatClampNeg)]) (st := [.int v1, .ref 209]) okX11_isSignOf lkX11_171 rfl (Nat.le_refl _) (Nat.le_of_ble_eq_true rfl) (e2 c0 c1 c2 x1 M1 w1 c3 x2 M2 w2 c4) dX11_cutAll_250 (fun r3 M3 w3 => ?_)
            obtain ⟨x3, rfl, w3⟩ := w3
            refine pg_if_eq (pc := 253) (tgt := 260) dX11_cutAll_253 (by decide) (fun c5 => ?_) (fun c5 => ?_)
            · skip
              refine pg_iconst (pc := 260) (v := 4) dX11_cutAll_260 (by decide) ?_
              refine pg_iast (pc := 261) h0.2.2.1 (b2 c0 c1 c2) dX11_cutAll_261 ?_
              refine pg_iinc (pc := 262) (i := 2) (j := 5) (x := v2) (v := v2 + 1) (ls' := [(2, .int (v2 + 1)), (5, .long ((M.1 208 v2.toNatClampNeg).toInt64)), (4, .int v2), (3, .int (M.1 208 v2.toNatClampNeg)), (0, .ref 207), (1, .int v1)]) dX11_cutAll_262 rfl rfl (by decide) rfl ?_
              refine pg_aload_n (pc := 265) (i := 0) (j := 4) (x := 207) dX11_cutAll_265 rfl rfl ?_
              refine gfX11_30 (pc := 266) rfl h0 dX11_cutAll_266 ?_
              refine pg_iload_n (pc := 269) (i := 1) (j := 5) (x := v1) dX11_cutAll_269 rfl rfl ?_
              refine pg_lload (pc := 270) (i := 5) (j := 1) (x := (M.1 208 v2.toNatClampNeg).toInt64) dX11_cutAll_270 rfl ?_
              refine pg_last (pc := 272) h0.2.2.2.2.1 (b2 c0 c1 c2) dX11_cutAll_272 ?_
              refine pg_iinc (pc := 273) (i := 1) (j := 5) (x := v1) (v := v1 + 1) (ls' := [(1, .int (v1 + 1)), (2, .int (v2 + 1)), (5, .long ((M.1 208 v2.toNatClampNeg).toInt64)), (4, .int v2), (3, .int (M.1 208 v2.toNatClampNeg)), (0, .ref 207)]) dX11_cutAll_273 rfl rfl (by decide) rfl ?_
              refine pg_goto (pc := 276) (tgt := 17) dX11_cutAll_276 (by decide) ?_
              refine pg_drop (ks := [5, 0, 1]) (ls' := [(0, .ref 207), (1, .int (v1 + 1)), (2, .int (v2 + 1))]) rfl ?_
              exact k2 c0 c1 c2 x1 M1 w1 c3 x2 M2 w2 c4 x3 M3 w3 c5
            · skip
              refine pg_iconst (pc := 256) (v := 3) dX11_cutAll_256 (by decide) ?_
              refine pg_goto (pc := 257) (tgt := 261) dX11_cutAll_257 (by decide) ?_
              refine pg_iast (pc := 261) h0.2.2.1 (b2 c0 c1 c2) dX11_cutAll_261 ?_
              refine pg_iinc (pc := 262) (i := 2) (j := 5) (x := v2) (v := v2 + 1) (ls' := [(2, .int (v2 + 1)), (5, .long ((M.1 208 v2.toNatClampNeg).toInt64)), (4, .int v2), (3, .int (M.1 208 v2.toNatClampNeg)), (0, .ref 207), (1, .int v1)]) dX11_cutAll_262 rfl rfl (by decide) rfl ?_
              refine pg_aload_n (pc := 265) (i := 0) (j := 4) (x := 207) dX11_cutAll_265 rfl rfl ?_
              refine gfX11_30 (pc := 266) rfl h0 dX11_cutAll_266 ?_
              refine pg_iload_n (pc := 269) (i := 1) (j := 5) (x := v1) dX11_cutAll_269 rfl rfl ?_
              refine pg_lload (pc := 270) (i := 5) (j := 1) (x := (M.1 208 v2.toNatClampNeg).toInt64) dX11_cutAll_270 rfl ?_
              refine pg_last (pc := 272) h0.2.2.2.2.1 (b2 c0 c1 c2) dX11_cutAll_272 ?_
              refine pg_iinc (pc := 273) (i := 1) (j := 5) (x := v1) (v := v1 + 1) (ls' := [(1, .int (v1 + 1)), (2, .int (v2 + 1)), (5, .long ((M.1 208 v2.toNatClampNeg).toInt64)), (4, .int v2), (3, .int (M.1 208 v2.toNatClampNeg)), (0, .ref 207)]) dX11_cutAll_273 rfl rfl (by decide) rfl ?_
              refine pg_goto (pc := 276) (tgt := 17) dX11_cutAll_276 (by decide) ?_
              refine pg_drop (ks := [5, 0, 1]) (ls' := [(0, .ref 207), (1, .int (v1 + 1)), (2, .int (v2 + 1))]) rfl ?_
              exact k3 c0 c1 c2 x1 M1 w1 c3 x2 M2 w2 c4 x3 M3 w3 c5
          · skip
            refine pg_drop (ks := [3, 4, 5, 1, 0]) (ls' := [(0, .ref 207), (1, .int v1), (2, .int v2), (4, .int v2), (5, .long 0)]) rfl ?_
            exact k4 c0 c1 c2 x1 M1 w1 c3 x2 M2 w2 c4
        · skip
          refine pg_drop (ks := [3, 4, 5, 1, 0]) (ls' := [(0, .ref 207), (1, .int v1), (2, .int v2), (4, .int v2), (5, .long 0)]) rfl ?_
          exact k5 c0 c1 c2 x1 M1 w1 c3
      · skip
        refine pg_iinc (pc := 44) (i := 2) (j := 3) (x := v2) (v := v2 + 1) (ls' := [(2, .int (v2 + 1)), (3, .int (M.1 208 v2.toNatClampNeg)), (0, .ref 207), (1, .int v1)]) dX11_cutAll_44 rfl rfl (by decide) rfl ?_
        refine pg_goto (pc := 47) (tgt := 17) dX11_cutAll_47 (by decide) ?_
        refine pg_drop (ks := [2, 3, 0]) (ls' := [(0, .ref 207), (1, .int v1), (2, .int (v2 + 1))]) rfl ?_
        exact k6 c0 c1 c2
theorem sX11_cutAll_159 {v1 : Int32} {v2 : Int32} {v4 : Int32} {v5 : Int64} {Q0 : Int32 → pg_M → Prop}
    (h0 : pg_isX11 Λ)
    (b0 : ((M.1 207 3) ≤ v2) → ((v2 - v4) ≤ 4) → vp_in v1 1002)
    (k0 : ((M.1 207 3) ≤ v2) → ((v2 - v4) ≤ 4) → pg_At S Λ YX11_cutAll (d + 1) 17 [(0, .ref 207), (1, .int (v1 + 1)), (2, .int v2)] [] (pg_sj (pg_si M 209 v1.toNatClampNeg 2) 211 v1.toNatClampNeg v5) P)
    (b1 : ((M.1 207 3) ≤ v2) → (¬ (v2 - v4) ≤ 4) → vp_in v1 1002)
    (k1 : ((M.1 207 3) ≤ v2) → (¬ (v2 - v4) ≤ 4) → pg_At S Λ YX11_cutAll (d + 1) 17 [(0, .ref 207), (1, .int (v1 + 1)), (2, .int v2)] [] (pg_sj (pg_si M 209 v1.toNatClampNeg 4) 211 v1.toNatClampNeg v5) P)
    (b2 : (¬ (M.1 207 3) ≤ v2) → vp_in v2 1000)
    (e0 : (¬ (M.1 207 3) ≤ v2) → pg_Ev S Λ YX11_isDigit d [.int (M.1 208 v2.toNatClampNeg)] M (fun r M' => ∃ x, r = some (.int x) ∧ Q0 x M'))
    (b3 : (¬ (M.1 207 3) ≤ v2) → ∀ x1 M1, Q0 x1 M1 → (x1 = 0) → ((v2 - v4) ≤ 4) → vp_in v1 1002)
    (k2 : (¬ (M.1 207 3) ≤ v2) → ∀ x1 M1, Q0 x1 M1 → (x1 = 0) → ((v2 - v4) ≤ 4) → pg_At S Λ YX11_cutAll (d + 1) 17 [(0, .ref 207), (1, .int (v1 + 1)), (2, .int v2)] [] (pg_sj (pg_si M1 209 v1.toNatClampNeg 2) 211 v1.toNatClampNeg v5) P)
    (b4 : (¬ (M.1 207 3) ≤ v2) → ∀ x1 M1, Q0 x1 M1 → (x1 = 0) → (¬ (v2 - v4) ≤ 4) → vp_in v1 1002)
    (k3 : (¬ (M.1 207 3) ≤ v2) → ∀ x1 M1, Q0 x1 M1 → (x1 = 0) → (¬ (v2 - v4) ≤ 4) → pg_At S Λ YX11_cutAll (d + 1) 17 [(0, .ref 207), (1, .int (v1 + 1)), (2, .int v2)] [] (pg_sj (pg_si M1 209 v1.toNatClampNeg 4) 211 v1.toNatClampNeg v5) P)
    (k4 : (¬ (M.1 207 3) ≤ v2) → ∀ x1 M1, Q0 x1 M1 → (¬ x1 = 0) → (4 ≤ (v2 - v4)) → pg_At S Λ YX11_cutAll (d + 1) 159 [(0, .ref 207), (1, .int v1), (2, .int (v2 + 1)), (4, .int v4), (5, .long v5)] [] M1 P)
    (k5 : (¬ (M.1 207 3) ≤ v2) → ∀ x1 M1, Q0 x1 M1 → (¬ x1 = 0) → (¬ 4 ≤ (v2 - v4)) → pg_At S Λ YX11_cutAll (d + 1) 159 [(0, .ref 207), (1, .int v1), (2, .int (v2 + 1)), (4, .int v4), (5, .long (((10 * v5) + ((M1.1 208 v2.toNatClampNeg).toInt64)) - 48))] [] M1 P) :
    pg_At S Λ YX11_cutAll (d + 1) 159 [(0, .ref 207), (1, .int v1), (2, .int v2), (4, .int v4), (5, .long v5)] [] M P := by
  refine pg_iload_n (pc := 159) (i := 2) (j := 2) (x := v2) dX11_cutAll_159 rfl rfl ?_
  refine pg_aload_n (pc := 160) (i := 0) (j := 0) (x := 207) dX11_cutAll_160 rfl rfl ?_
  refine gfX11_155 (pc := 161) rfl h0 dX11_cutAll_161 ?_
  refine pg_icmp_ge (pc := 164) (tgt := 218) dX11_cutAll_164 (by decide) (fun c0 => ?_) (fun c0 => ?_)
  · skip
    refine pg_aload_n (pc := 218) (i := 0) (j := 0) (x := 207) dX11_cutAll_218 rfl rfl ?_
    refine gfX11_24 (pc := 219) rfl h0 dX11_cutAll_219 ?_
    refine pg_iload_n (pc := 222) (i := 1) (j := 1) (x := v1) dX11_cutAll_222 rfl rfl ?_
    refine pg_iload_n (pc := 223) (i := 2) (j := 2) (x := v2) dX11_cutAll_223 rfl rfl ?_
    refine pg_iload (pc := 224) (i := 4) (j := 3) (x := v4) dX11_cutAll_224 rfl ?_
    refine pg_isub (pc := 226) dX11_cutAll_226 ?_
    refine pg_iconst (pc := 227) (v := 4) dX11_cutAll_227 (by decide) ?_
    refine pg_icmp_le (pc := 228) (tgt := 235) dX11_cutAll_228 (by decide) (fun c1 => ?_) (fun c1 => ?_)
    · skip
      refine pg_iconst (pc := 235) (v := 2) dX11_cutAll_235 (by decide) ?_
      refine pg_iast (pc := 236) h0.2.2.1 (b0 c0 c1) dX11_cutAll_236 ?_
      refine pg_goto (pc := 237) (tgt := 265) dX11_cutAll_237 (by decide) ?_
      refine pg_aload_n (pc := 265) (i := 0) (j := 0) (x := 207) dX11_cutAll_265 rfl rfl ?_
      refine gfX11_30 (pc := 266) rfl h0 dX11_cutAll_266 ?_
      refine pg_iload_n (pc := 269) (i := 1) (j := 1) (x := v1) dX11_cutAll_269 rfl rfl ?_
      refine pg_lload (pc := 270) (i := 5) (j := 4) (x := v5) dX11_cutAll_270 rfl ?_
      refine pg_last (pc := 272) h0.2.2.2.2.1 (b0 c0 c1) dX11_cutAll_272 ?_
      refine pg_iinc (pc := 273) (i := 1) (j := 1) (x := v1) (v := v1 + 1) (ls' := [(1, .int (v1 + 1)), (0, .ref 207), (2, .int v2), (4, .int v4), (5, .long v5)]) dX11_cutAll_273 rfl rfl (by decide) rfl ?_
      refine pg_goto (pc := 276) (tgt := 17) dX11_cutAll_276 (by decide) ?_
      refine pg_drop (ks := [1, 0, 2]) (ls' := [(0, .ref 207), (1, .int (v1 + 1)), (2, .int v2)]) rfl ?_
      exact k0 c0 c1
    · skip
      refine pg_iconst (pc := 231) (v := 4) dX11_cutAll_231 (by decide) ?_
      refine pg_goto (pc := 232) (tgt := 236) dX11_cutAll_232 (by decide) ?_
      refine pg_iast (pc := 236) h0.2.2.1 (b1 c0 c1) dX11_cutAll_236 ?_
      refine pg_goto (pc := 237) (tgt := 265) dX11_cutAll_237 (by decide) ?_
      refine pg_aload_n (pc := 265) (i := 0) (j := 0) (x := 207) dX11_cutAll_265 rfl rfl ?_
      refine gfX11_30 (pc := 266) rfl h0 dX11_cutAll_266 ?_
      refine pg_iload_n (pc := 269) (i := 1) (j := 1) (x := v1) dX11_cutAll_269 rfl rfl ?_
      refine pg_lload (pc := 270) (i := 5) (j := 4) (x := v5) dX11_cutAll_270 rfl ?_
      refine pg_last (pc := 272) h0.2.2.2.2.1 (b1 c0 c1) dX11_cutAll_272 ?_
      refine pg_iinc (pc := 273) (i := 1) (j := 1) (x := v1) (v := v1 + 1) (ls' := [(1, .int (v1 + 1)), (0, .ref 207), (2, .int v2), (4, .int v4), (5, .long v5)]) dX11_cutAll_273 rfl rfl (by decide) rfl ?_
      refine pg_goto (pc := 276) (tgt := 17) dX11_cutAll_276 (by decide) ?_
      refine pg_drop (ks := [1, 0, 2]) (ls' := [(0, .ref 207), (1, .int (v1 + 1)), (2, .int v2)]) rfl ?_
      exact k1 c0 c1
  · skip
    refine pg_aload_n (pc := 167) (i := 0) (j := 0) (x := 207) dX11_cutAll_167 rfl rfl ?_
    refine gfX11_14 (pc := 168) rfl h0 dX11_cutAll_168 ?_
    refine pg_iload_n (pc := 171) (i := 2) (j := 2) (x := v2) dX11_cutAll_171 rfl rfl ?_
    refine pg_iald (pc := 172) h0.2.1 (b2 c0) dX11_cutAll_172 ?_
    refine pg_callS (pc := 173) (As := [.int (M.1 208 v2.toNatClampNeg)]) (st := []) okX11_isDigit lkX11_164 rfl (Nat.le_refl _) (Nat.le_of_ble_eq_true rfl) (e0 c0) dX11_cutAll_173 (fun r1 M1 w1 => ?_)
    obtain ⟨x1, rfl, w1⟩ := w1
    refine pg_if_eq (pc := 176) (tgt := 218) dX11_cutAll_176 (by decide) (fun c1 => ?_) (fun c1 => ?_)
    · skip
      refine pg_aload_n (pc := 218) (i := 0) (j := 0) (x := 207) dX11_cutAll_218 rfl rfl ?_
      refine gfX11_24 (pc := 219) rfl h0 dX11_cutAll_219 ?_
      refine pg_iload_n (pc := 222) (i := 1) (j := 1) (x := v1) dX11_cutAll_222 rfl rfl ?_
      refine pg_iload_n (pc := 223) (i := 2) (j := 2) (x := v2) dX11_cutAll_223 rfl rfl ?_
      refine pg_iload (pc := 224) (i := 4) (j := 3) (x := v4) dX11_cutAll_224 rfl ?_
      refine pg_isub (pc := 226) dX11_cutAll_226 ?_
      refine pg_iconst (pc := 227) (v := 4) dX11_cutAll_227 (by decide) ?_
      refine pg_icmp_le (pc := 228) (tgt := 235) dX11_cutAll_228 (by decide) (fun c2 => ?_) (fun c2 => ?_)
      · skip
        refine pg_iconst (pc := 235) (v := 2) dX11_cutAll_235 (by decide) ?_
        refine pg_iast (pc := 236) h0.2.2.1 (b3 c0 x1 M1 w1 c1 c2) dX11_cutAll_236 ?_
        refine pg_goto (pc := 237) (tgt := 265) dX11_cutAll_237 (by decide) ?_
        refine pg_aload_n (pc := 265) (i := 0) (j := 0) (x := 207) dX11_cutAll_265 rfl rfl ?_
        refine gfX11_30 (pc := 266) rfl h0 dX11_cutAll_266 ?_
        refine pg_iload_n (pc := 269) (i := 1) (j := 1) (x := v1) dX11_cutAll_269 rfl rfl ?_
        refine pg_lload (pc := 270) (i := 5) (j := 4) (x := v5) dX11_cutAll_270 rfl ?_
        refine pg_last (pc := 272) h0.2.2.2.2.1 (b3 c0 x1 M1 w1 c1 c2) dX11_cutAll_272 ?_
        refine pg_iinc (pc := 273) (i := 1) (j := 1) (x := v1) (v := v1 + 1) (ls' := [(1, .int (v1 + 1)), (0, .ref 207), (2, .int v2), (4, .int v4), (5, .long v5)]) dX11_cutAll_273 rfl rfl (by decide) rfl ?_
        refine pg_goto (pc := 276) (tgt := 17) dX11_cutAll_276 (by decide) ?_
        refine pg_drop (ks := [1, 0, 2]) (ls' := [(0, .ref 207), (1, .int (v1 + 1)), (2, .int v2)]) rfl ?_
        exact k2 c0 x1 M1 w1 c1 c2
      · skip
        refine pg_iconst (pc := 231) (v := 4) dX11_cutAll_231 (by decide) ?_
        refine pg_goto (pc := 232) (tgt := 236) dX11_cutAll_232 (by decide) ?_
        refine pg_iast (pc := 236) h0.2.2.1 (b4 c0 x1 M1 w1 c1 c2) dX11_cutAll_236 ?_
        refine pg_goto (pc := 237) (tgt := 265) dX11_cutAll_237 (by decide) ?_
        refine pg_aload_n (pc := 265) (i := 0) (j := 0) (x := 207) dX11_cutAll_265 rfl rfl ?_
        refine gfX11_30 (pc := 266) rfl h0 dX11_cutAll_266 ?_
        refine pg_iload_n (pc := 269) (i := 1) (j := 1) (x := v1) dX11_cutAll_269 rfl rfl ?_
        refine pg_lload (pc := 270) (i := 5) (j := 4) (x := v5) dX11_cutAll_270 rfl ?_
        refine pg_last (pc := 272) h0.2.2.2.2.1 (b4 c0 x1 M1 w1 c1 c2) dX11_cutAll_272 ?_
        refine pg_iinc (pc := 273) (i := 1) (j := 1) (x := v1) (v := v1 + 1) (ls' := [(1, .int (v1 + 1)), (0, .ref 207), (2, .int v2), (4, .int v4), (5, .long v5)]) dX11_cutAll_273 rfl rfl (by decide) rfl ?_
        refine pg_goto (pc := 276) (tgt := 17) dX11_cutAll_276 (by decide) ?_
        refine pg_drop (ks := [1, 0, 2]) (ls' := [(0, .ref 207), (1, .int (v1 + 1)), (2, .int v2)]) rfl ?_
        exact k3 c0 x1 M1 w1 c1 c2
    · skip
      refine pg_iload_n (pc := 179) (i := 2) (j := 2) (x := v2) dX11_cutAll_179 rfl rfl ?_
      refine pg_iload (pc := 180) (i := 4) (j := 3) (x := v4) dX11_cutAll_180 rfl ?_
      refine pg_isub (pc := 182) dX11_cutAll_182 ?_
      refine pg_iconst (pc := 183) (v := 4) dX11_cutAll_183 (by decide) ?_
      refine pg_icmp_ge (pc := 184) (tgt := 208) dX11_cutAll_184 (by decide) (fun c2 => ?_) (fun c2 => ?_)
      · skip
        refine pg_lload (pc := 208) (i := 5) (j := 4) (x := v5) dX11_cutAll_208 rfl ?_
        refine pg_lstore (pc := 210) (i := 5) (ls' := [(5, .long v5), (0, .ref 207), (1, .int v1), (2, .int v2), (4, .int v4)]) dX11_cutAll_210 (by decide) rfl ?_
        refine pg_iinc (pc := 212) (i := 2) (j := 3) (x := v2) (v := v2 + 1) (ls' := [(2, .int (v2 + 1)), (5, .long v5), (0, .ref 207), (1, .int v1), (4, .int v4)]) dX11_cutAll_212 rfl rfl (by decide) rfl ?_
        refine pg_goto (pc := 215) (tgt := 159) dX11_cutAll_215 (by decide) ?_
        refine pg_drop (ks := [2, 3, 0, 4, 1]) (ls' := [(0, .ref 207), (1, .int v1), (2, .int (v2 + 1)), (4, .int v4), (5, .long v5)]) rfl ?_
        exact k4 c0 x1 M1 w1 c1 c2
      · skip
        refine pg_ldc2 (pc := 187) (v := 10) kX11_167 dX11_cutAll_187 ?_
        refine pg_lload (pc := 190) (i := 5) (j := 4) (x := v5) dX11_cutAll_190 rfl ?_
        refine pg_lmul (pc := 192) dX11_cutAll_192 ?_
        refine pg_aload_n (pc := 193) (i := 0) (j := 0) (x := 207) dX11_cutAll_193 rfl rfl ?_
        refine gfX11_14 (pc := 194) rfl h0 dX11_cutAll_194 ?_
        refine pg_iload_n (pc := 197) (i := 2) (j := 2) (x := v2) dX11_cutAll_197 rfl rfl ?_
        refine pg_iald (pc := 198) h0.2.1 (b2 c0) dX11_cutAll_198 ?_
        refine pg_i2l (pc := 199) dX11_cutAll_199 rfl ?_
        refine pg_ladd (pc := 200) dX11_cutAll_200 ?_
        refine pg_ldc2 (pc := 201) (v := 48) kX11_169 dX11_cutAll_201 ?_
        refine pg_lsub (pc := 204) dX11_cutAll_204 ?_
        refine pg_goto (pc := 205) (tgt := 210) dX11_cutAll_205 (by decide) ?_
        refine pg_lstore (pc := 210) (i := 5) (ls' := [(5, .long (((10 * v5) + ((M1.1 208 v2.toNatClampNeg).toInt64)) - 48)), (0, .ref 207), (1, .int v1), (2, .int v2), (4, .int v4)]) dX11_cutAll_210 (by decide) rfl ?_
        refine pg_iinc (pc := 212) (i := 2) (j := 3) (x := v2) (v := v2 + 1) (ls' := [(2, .int (v2 + 1)), (5, .long (((10 * v5) + ((M1.1 208 v2.toNatClampNeg).toInt64)) - 48)), (0, .ref 207), (1, .int v1), (4, .int v4)]) dX11_cutAll_212 rfl rfl (by decide) rfl ?_
        refine pg_goto (pc := 215) (tgt := 159) dX11_cutAll_215 (by decide) ?_
        refine pg_drop (ks := [2, 3, 0, 4, 1]) (ls' := [(0, .ref 207), (1, .int v1), (2, .int (v2 + 1)), (4, .int v4), (5, .long (((10 * v5) + ((M1.1 208 v2.toNatClampNeg).toInt64)) - 48))]) rfl ?_
        exact k5 c0 x1 M1 w1 c1 c2
theorem sX11_cutAll_70 {v1 : Int32} {v2 : Int32} {v4 : Int32} {v5 : Int64} {Q0 : Int32 → pg_M → Prop} {Q1 : Int32 → pg_M → Prop}
    (h0 : pg_isX11 Λ)
    (b0 : ((M.1 207 3) ≤ v2) → ((v2 - v4) ≤ 8) → vp_in v1 1002)
    (k0 : ((M.1 207 3) ≤ v2) → ((v2 - v4) ≤ 8) → pg_At S Λ YX11_cutAll (d + 1) 17 [(0, .ref 207), (1, .int (v1 + 1)), (2, .int v2)] [] (pg_sj (pg_si M 209 v1.toNatClampNeg 1) 211 v1.toNatClampNeg v5) P)
    (b1 : ((M.1 207 3) ≤ v2) → (¬ (v2 - v4) ≤ 8) → vp_in v1 1002)
    (k1 : ((M.1 207 3) ≤ v2) → (¬ (v2 - v4) ≤ 8) → pg_At S Λ YX11_cutAll (d + 1) 17 [(0, .ref 207), (1, .int (v1 + 1)), (2, .int v2)] [] (pg_sj (pg_si M 209 v1.toNatClampNeg 4) 211 v1.toNatClampNeg v5) P)
    (b2 : (¬ (M.1 207 3) ≤ v2) → vp_in v2 1000)
    (e0 : (¬ (M.1 207 3) ≤ v2) → pg_Ev S Λ YX11_isLetter d [.int (M.1 208 v2.toNatClampNeg)] M (fun r M' => ∃ x, r = some (.int x) ∧ Q0 x M'))
    (b3 : (¬ (M.1 207 3) ≤ v2) → ∀ x1 M1, Q0 x1 M1 → (x1 = 0) → ((v2 - v4) ≤ 8) → vp_in v1 1002)
    (k2 : (¬ (M.1 207 3) ≤ v2) → ∀ x1 M1, Q0 x1 M1 → (x1 = 0) → ((v2 - v4) ≤ 8) → pg_At S Λ YX11_cutAll (d + 1) 17 [(0, .ref 207), (1, .int (v1 + 1)), (2, .int v2)] [] (pg_sj (pg_si M1 209 v1.toNatClampNeg 1) 211 v1.toNatClampNeg v5) P)
    (b4 : (¬ (M.1 207 3) ≤ v2) → ∀ x1 M1, Q0 x1 M1 → (x1 = 0) → (¬ (v2 - v4) ≤ 8) → vp_in v1 1002)
    (k3 : (¬ (M.1 207 3) ≤ v2) → ∀ x1 M1, Q0 x1 M1 → (x1 = 0) → (¬ (v2 - v4) ≤ 8) → pg_At S Λ YX11_cutAll (d + 1) 17 [(0, .ref 207), (1, .int (v1 + 1)), (2, .int v2)] [] (pg_sj (pg_si M1 209 v1.toNatClampNeg 4) 211 v1.toNatClampNeg v5) P)
    (k4 : (¬ (M.1 207 3) ≤ v2) → ∀ x1 M1, Q0 x1 M1 → (¬ x1 = 0) → (8 ≤ (v2 - v4)) → pg_At S Λ YX11_cutAll (d + 1) 70 [(0, .ref 207), (1, .int v1), (2, .int (v2 + 1)), (4, .int v4), (5, .long v5)] [] M1 P)
    (e1 : (¬ (M.1 207 3) ≤ v2) → ∀ x1 M1, Q0 x1 M1 → (¬ x1 = 0) → (¬ 8 ≤ (v2 - v4)) → pg_Ev S Λ YX11_rank d [.int (M1.1 208 v2.toNatClampNeg)] M1 (fun r M' => ∃ x, r = some (.int x) ∧ Q1 x M'))
    (k5 : (¬ (M.1 207 3) ≤ v2) → ∀ x1 M1, Q0 x1 M1 → (¬ x1 = 0) → (¬ 8 ≤ (v2 - v4)) → ∀ x2 M2, Q1 x2 M2 → pg_At S Λ YX11_cutAll (d + 1) 70 [(0, .ref 207), (1, .int v1), (2, .int (v2 + 1)), (4, .int v4), (5, .long ((37 * v5) + x2.toInt64))] [] M2 P) :
    pg_At S Λ YX11_cutAll (d + 1) 70 [(0, .ref 207), (1, .int v1), (2, .int v2), (4, .int v4), (5, .long v5)] [] M P := by
  refine pg_iload_n (pc := 70) (i := 2) (j := 2) (x := v2) dX11_cutAll_70 rfl rfl ?_
  refine pg_aload_n (pc := 71) (i := 0) (j := 0) (x := 207) dX11_cutAll_71 rfl rfl ?_
  refine gfX11_155 (pc := 72) rfl h0 dX11_cutAll_72 ?_
  refine pg_icmp_ge (pc := 75) (tgt := 129) dX11_cutAll_75 (by decide) (fun c0 => ?_) (fun c0 => ?_)
  · skip
    refine pg_aload_n (pc := 129) (i := 0) (j := 0) (x := 207) dX11_cutAll_129 rfl rfl ?_
    refine gfX11_24 (pc := 130) rfl h0 dX11_cutAll_130 ?_
    refine pg_iload_n (pc := 133) (i := 1) (j := 1) (x := v1) dX11_cutAll_133 rfl rfl ?_
    refine pg_iload_n (pc := 134) (i := 2) (j := 2) (x := v2) dX11_cutAll_134 rfl rfl ?_
    refine pg_iload (pc := 135) (i := 4) (j := 3) (x := v4) dX11_cutAll_135 rfl ?_
    refine pg_isub (pc := 137) dX11_cutAll_137 ?_
    refine pg_bipush (pc := 138) (v := 8) dX11_cutAll_138 (by decide) ?_
    refine pg_icmp_le (pc := 140) (tgt := 147) dX11_cutAll_140 (by decide) (fun c1 => ?_) (fun c1 => ?_)
    · skip
      refine pg_iconst (pc := 147) (v := 1) dX11_cutAll_147 (by decide) ?_
      refine pg_iast (pc := 148) h0.2.2.1 (b0 c0 c1) dX11_cutAll_148 ?_
      refine pg_goto (pc := 149) (tgt := 265) dX11_cutAll_149 (by decide) ?_
      refine pg_aload_n (pc := 265) (i := 0) (j := 0) (x := 207) dX11_cutAll_265 rfl rfl ?_
      refine gfX11_30 (pc := 266) rfl h0 dX11_cutAll_266 ?_
      refine pg_iload_n (pc := 269) (i := 1) (j := 1) (x := v1) dX11_cutAll_269 rfl rfl ?_
      refine pg_lload (pc := 270) (i := 5) (j := 4) (x := v5) dX11_cutAll_270 rfl ?_
      refine pg_last (pc := 272) h0.2.2.2.2.1 (b0 c0 c1) dX11_cutAll_272 ?_
      refine pg_iinc (pc := 273) (i := 1) (j := 1) (x := v1) (v := v1 + 1) (ls' := [(1, .int (v1 + 1)), (0, .ref 207), (2, .int v2), (4, .int v4), (5, .long v5)]) dX11_cutAll_273 rfl rfl (by decide) rfl ?_
      refine pg_goto (pc := 276) (tgt := 17) dX11_cutAll_276 (by decide) ?_
      refine pg_drop (ks := [1, 0, 2]) (ls' := [(0, .ref 207), (1, .int (v1 + 1)), (2, .int v2)]) rfl ?_
      exact k0 c0 c1
    · skip
      refine pg_iconst (pc := 143) (v := 4) dX11_cutAll_143 (by decide) ?_
      refine pg_goto (pc := 144) (tgt := 148) dX11_cutAll_144 (by decide) ?_
      refine pg_iast (pc := 148) h0.2.2.1 (b1 c0 c1) dX11_cutAll_148 ?_
      refine pg_goto (pc := 149) (tgt := 265) dX11_cutAll_149 (by decide) ?_
      refine pg_aload_n (pc := 265) (i := 0) (j := 0) (x := 207) dX11_cutAll_265 rfl rfl ?_
      refine gfX11_30 (pc := 266) rfl h0 dX11_cutAll_266 ?_
      refine pg_iload_n (pc := 269) (i := 1) (j := 1) (x := v1) dX11_cutAll_269 rfl rfl ?_
      refine pg_lload (pc := 270) (i := 5) (j := 4) (x := v5) dX11_cutAll_270 rfl ?_
      refine pg_last (pc := 272) h0.2.2.2.2.1 (b1 c0 c1) dX11_cutAll_272 ?_
      refine pg_iinc (pc := 273) (i := 1) (j := 1) (x := v1) (v := v1 + 1) (ls' := [(1, .int (v1 + 1)), (0, .ref 207), (2, .int v2), (4, .int v4), (5, .long v5)]) dX11_cutAll_273 rfl rfl (by decide) rfl ?_
      refine pg_goto (pc := 276) (tgt := 17) dX11_cutAll_276 (by decide) ?_
      refine pg_drop (ks := [1, 0, 2]) (ls' := [(0, .ref 207), (1, .int (v1 + 1)), (2, .int v2)]) rfl ?_
      exact k1 c0 c1
  · skip
    refine pg_aload_n (pc := 78) (i := 0) (j := 0) (x := 207) dX11_cutAll_78 rfl rfl ?_
    refine gfX11_14 (pc := 79) rfl h0 dX11_cutAll_79 ?_
    refine pg_iload_n (pc := 82) (i := 2) (j := 2) (x := v2) dX11_cutAll_82 rfl rfl ?_
    refine pg_iald (pc := 83) h0.2.1 (b2 c0) dX11_cutAll_83 ?_
    refine pg_callS (pc := 84) (As := [.int (M.1 208 v2.toNatClampNeg)]) (st := []) okX11_isLetter lkX11_151 rfl (Nat.le_refl _) (Nat.le_of_ble_eq_true rfl) (e0 c0) dX11_cutAll_84 (fun r1 M1 w1 => ?_)
    obtain ⟨x1, rfl, w1⟩ := w1
    refine pg_if_eq (pc := 87) (tgt := 129) dX11_cutAll_87 (by decide) (fun c1 => ?_) (fun c1 => ?_)
    · skip
      refine pg_aload_n (pc := 129) (i := 0) (j := 0) (x := 207) dX11_cutAll_129 rfl rfl ?_
      refine gfX11_24 (pc := 130) rfl h0 dX11_cutAll_130 ?_
      refine pg_iload_n (pc := 133) (i := 1) (j := 1) (x := v1) dX11_cutAll_133 rfl rfl ?_
      refine pg_iload_n (pc := 134) (i := 2) (j := 2) (x := v2) dX11_cutAll_134 rfl rfl ?_
      refine pg_iload (pc := 135) (i := 4) (j := 3) (x := v4) dX11_cutAll_135 rfl ?_
      refine pg_isub (pc := 137) dX11_cutAll_137 ?_
      refine pg_bipush (pc := 138) (v := 8) dX11_cutAll_138 (by decide) ?_
      refine pg_icmp_le (pc := 140) (tgt := 147) dX11_cutAll_140 (by decide) (fun c2 => ?_) (fun c2 => ?_)
      · skip
        refine pg_iconst (pc := 147) (v := 1) dX11_cutAll_147 (by decide) ?_
        refine pg_iast (pc := 148) h0.2.2.1 (b3 c0 x1 M1 w1 c1 c2) dX11_cutAll_148 ?_
        refine pg_goto (pc := 149) (tgt := 265) dX11_cutAll_149 (by decide) ?_
        refine pg_aload_n (pc := 265) (i := 0) (j := 0) (x := 207) dX11_cutAll_265 rfl rfl ?_
        refine gfX11_30 (pc := 266) rfl h0 dX11_cutAll_266 ?_
        refine pg_iload_n (pc := 269) (i := 1) (j := 1) (x := v1) dX11_cutAll_269 rfl rfl ?_
        refine pg_lload (pc := 270) (i := 5) (j := 4) (x := v5) dX11_cutAll_270 rfl ?_
        refine pg_last (pc := 272) h0.2.2.2.2.1 (b3 c0 x1 M1 w1 c1 c2) dX11_cutAll_272 ?_
        refine pg_iinc (pc := 273) (i := 1) (j := 1) (x := v1) (v := v1 + 1) (ls' := [(1, .int (v1 + 1)), (0, .ref 207), (2, .int v2), (4, .int v4), (5, .long v5)]) dX11_cutAll_273 rfl rfl (by decide) rfl ?_
        refine pg_goto (pc := 276) (tgt := 17) dX11_cutAll_276 (by decide) ?_
        refine pg_drop (ks := [1, 0, 2]) (ls' := [(0, .ref 207), (1, .int (v1 + 1)), (2, .int v2)]) rfl ?_
        exact k2 c0 x1 M1 w1 c1 c2
      · skip
        refine pg_iconst (pc := 143) (v := 4) dX11_cutAll_143 (by decide) ?_
        refine pg_goto (pc := 144) (tgt := 148) dX11_cutAll_144 (by decide) ?_
        refine pg_iast (pc := 148) h0.2.2.1 (b4 c0 x1 M1 w1 c1 c2) dX11_cutAll_148 ?_
        refine pg_goto (pc := 149) (tgt := 265) dX11_cutAll_149 (by decide) ?_
        refine pg_aload_n (pc := 265) (i := 0) (j := 0) (x := 207) dX11_cutAll_265 rfl rfl ?_
        refine gfX11_30 (pc := 266) rfl h0 dX11_cutAll_266 ?_
        refine pg_iload_n (pc := 269) (i := 1) (j := 1) (x := v1) dX11_cutAll_269 rfl rfl ?_
        refine pg_lload (pc := 270) (i := 5) (j := 4) (x := v5) dX11_cutAll_270 rfl ?_
        refine pg_last (pc := 272) h0.2.2.2.2.1 (b4 c0 x1 M1 w1 c1 c2) dX11_cutAll_272 ?_
        refine pg_iinc (pc := 273) (i := 1) (j := 1) (x := v1) (v := v1 + 1) (ls' := [(1, .int (v1 + 1)), (0, .ref 207), (2, .int v2), (4, .int v4), (5, .long v5)]) dX11_cutAll_273 rfl rfl (by decide) rfl ?_
        refine pg_goto (pc := 276) (tgt := 17) dX11_cutAll_276 (by decide) ?_
        refine pg_drop (ks := [1, 0, 2]) (ls' := [(0, .ref 207), (1, .int (v1 + 1)), (2, .int v2)]) rfl ?_
        exact k3 c0 x1 M1 w1 c1 c2
    · skip
      refine pg_iload_n (pc := 90) (i := 2) (j := 2) (x := v2) dX11_cutAll_90 rfl rfl ?_
      refine pg_iload (pc := 91) (i := 4) (j := 3) (x := v4) dX11_cutAll_91 rfl ?_
      refine pg_isub (pc := 93) dX11_cutAll_93 ?_
      refine pg_bipush (pc := 94) (v := 8) dX11_cutAll_94 (by decide) ?_
      refine pg_icmp_ge (pc := 96) (tgt := 119) dX11_cutAll_96 (by decide) (fun c2 => ?_) (fun c2 => ?_)
      · skip
        refine pg_lload (pc := 119) (i := 5) (j := 4) (x := v5) dX11_cutAll_119 rfl ?_
        refine pg_lstore (pc := 121) (i := 5) (ls' := [(5, .long v5), (0, .ref 207), (1, .int v1), (2, .int v2), (4, .int v4)]) dX11_cutAll_121 (by decide) rfl ?_
        refine pg_iinc (pc := 123) (i := 2) (j := 3) (x := v2) (v := v2 + 1) (ls' := [(2, .int (v2 + 1)), (5, .long v5), (0, .ref 207), (1, .int v1), (4, .int v4)]) dX11_cutAll_123 rfl rfl (by decide) rfl ?_
        refine pg_goto (pc := 126) (tgt := 70) dX11_cutAll_126 (by decide) ?_
        refine pg_drop (ks := [2, 3, 0, 4, 1]) (ls' := [(0, .ref 207), (1, .int v1), (2, .int (v2 + 1)), (4, .int v4), (5, .long v5)]) rfl ?_
        exact k4 c0 x1 M1 w1 c1 c2
      · skip
        refine pg_ldc2 (pc := 99) (v := 37) kX11_158 dX11_cutAll_99 ?_
        refine pg_lload (pc := 102) (i := 5) (j := 4) (x := v5) dX11_cutAll_102 rfl ?_
        refine pg_lmul (pc := 104) dX11_cutAll_104 ?_
        refine pg_aload_n (pc := 105) (i := 0) (j := 0) (x := 207) dX11_cutAll_105 rfl rfl ?_
        refine gfX11_14 (pc := 106) rfl h0 dX11_cutAll_106 ?_
        refine pg_iload_n (pc := 109) (i := 2) (j := 2) (x := v2) dX11_cutAll_109 rfl rfl ?_
        refine pg_iald (pc := 110) h0.2.1 (b2 c0) dX11_cutAll_110 ?_
        refine pg_callS (pc := 111) (As := [.int (M1.1 208 v2.toNatClampNeg)]) (st := [.long (37 * v5)]) okX11_rank lkX11_160 rfl (Nat.le_refl _) (Nat.le_of_ble_eq_true rfl) (e1 c0 x1 M1 w1 c1 c2) dX11_cutAll_111 (fun r2 M2 w2 => ?_)
        obtain ⟨x2, rfl, w2⟩ := w2
        refine pg_i2l (pc := 114) dX11_cutAll_114 rfl ?_
        refine pg_ladd (pc := 115) dX11_cutAll_115 ?_
        refine pg_goto (pc := 116) (tgt := 121) dX11_cutAll_116 (by decide) ?_
        refine pg_lstore (pc := 121) (i := 5) (ls' := [(5, .long ((37 * v5) + x2.toInt64)), (0, .ref 207), (1, .int v1), (2, .int v2), (4, .int v4)]) dX11_cutAll_121 (by decide) rfl ?_
        refine pg_iinc (pc := 123) (i := 2) (j := 3) (x := v2) (v := v2 + 1) (ls' := [(2, .int (v2 + 1)), (5, .long ((37 * v5) + x2.toInt64)), (0, .ref 207), (1, .int v1), (4, .int v4)]) dX11_cutAll_123 rfl rfl (by decide) rfl ?_
        refine pg_goto (pc := 126) (tgt := 70) dX11_cutAll_126 (by decide) ?_
        refine pg_drop (ks := [2, 3, 0, 4, 1]) (ls' := [(0, .ref 207), (1, .int v1), (2, .int (v2 + 1)), (4, .int v4), (5, .long ((37 * v5) + x2.toInt64))]) rfl ?_
        exact k5 c0 x1 M1 w1 c1 c2 x2 M2 w2
theorem oX11_cutAll {d : Nat}  (h : pg_At S Λ YX11_cutAll d 0 [(0, .ref 207)] [] M P) : pg_Ev S Λ YX11_cutAll d [.ref 207] M P := pg_Ev.of (by decide) (by first | decide | exact Nat.le_of_ble_eq_true rfl) h
theorem sX11_wrong_0 {v1 : Int32} 
    (h0 : pg_isX11 Λ)
    (k0 : (¬ (M.1 207 8) = 0) → P none M)
    (b0 : ((M.1 207 8) = 0) → vp_in (M.1 207 7) 1002)
    (k1 : ((M.1 207 8) = 0) → P none (pg_si M 207 8 (v1 + (16 * (M.1 210 (M.1 207 7).toNatClampNeg))))) :
    pg_At S Λ YX11_wrong d 0 [(0, .ref 207), (1, .int v1)] [] M P := by
  refine pg_aload_n (pc := 0) (i := 0) (j := 0) (x := 207) dX11_wrong_0 rfl rfl ?_
  refine gfX11_177 (pc := 1) rfl h0 dX11_wrong_1 ?_
  refine pg_if_ne (pc := 4) (tgt := 25) dX11_wrong_4 (by decide) (fun c0 => ?_) (fun c0 => ?_)
  · skip
    exact pg_vret (pc := 25) rfl dX11_wrong_25 (k0 c0)
  · skip
    refine pg_aload_n (pc := 7) (i := 0) (j := 0) (x := 207) dX11_wrong_7 rfl rfl ?_
    refine pg_iload_n (pc := 8) (i := 1) (j := 1) (x := v1) dX11_wrong_8 rfl rfl ?_
    refine pg_bipush (pc := 9) (v := 16) dX11_wrong_9 (by decide) ?_
    refine pg_aload_n (pc := 11) (i := 0) (j := 0) (x := 207) dX11_wrong_11 rfl rfl ?_
    refine gfX11_27 (pc := 12) rfl h0 dX11_wrong_12 ?_
    refine pg_aload_n (pc := 15) (i := 0) (j := 0) (x := 207) dX11_wrong_15 rfl rfl ?_
    refine gfX11_174 (pc := 16) rfl h0 dX11_wrong_16 ?_
    refine pg_iald (pc := 19) h0.2.2.2.1 (b0 c0) dX11_wrong_19 ?_
    refine pg_imul (pc := 20) dX11_wrong_20 ?_
    refine pg_iadd (pc := 21) dX11_wrong_21 ?_
    refine pfX11_177 (pc := 22) rfl h0 dX11_wrong_22 ?_
    exact pg_vret (pc := 25) rfl dX11_wrong_25 (k1 c0)
theorem oX11_wrong {d : Nat} {v1 : Int32} (h : pg_At S Λ YX11_wrong d 0 [(0, .ref 207), (1, .int v1)] [] M P) : pg_Ev S Λ YX11_wrong d [.ref 207, .int v1] M P := pg_Ev.of (by decide) (by first | decide | exact Nat.le_of_ble_eq_true rfl) h
theorem sX11_isSign_0 {v1 : Int32} 
    (h0 : pg_isX11 Λ)
    (k0 : (¬ (M.1 207 8) = 0) → P (some (.int 0)) M)
    (b0 : ((M.1 207 8) = 0) → vp_in (M.1 207 7) 1002)
    (k1 : ((M.1 207 8) = 0) → (¬ (M.1 209 (M.1 207 7).toNatClampNeg) = 3) → P (some (.int 0)) M)
    (k2 : ((M.1 207 8) = 0) → ((M.1 209 (M.1 207 7).toNatClampNeg) = 3) → (¬ (lg_cmp (M.2.1 211 (M.1 207 7).toNatClampNeg) v1.toInt64) = 0) → P (some (.int 0)) M)
    (k3 : ((M.1 207 8) = 0) → ((M.1 209 (M.1 207 7).toNatClampNeg) = 3) → ((lg_cmp (M.2.1 211 (M.1 207 7).toNatClampNeg) v1.toInt64) = 0) → P (some (.int 1)) M) :
    pg_At S Λ YX11_isSign d 0 [(0, .ref 207), (1, .int v1)] [] M P := by
  refine pg_aload_n (pc := 0) (i := 0) (j := 0) (x := 207) dX11_isSign_0 rfl rfl ?_
  refine gfX11_177 (pc := 1) rfl h0 dX11_isSign_1 ?_
  refine pg_if_ne (pc := 4) (tgt := 39) dX11_isSign_4 (by decide) (fun c0 => ?_) (fun c0 => ?_)
  · skip
    refine pg_iconst (pc := 39) (v := 0) dX11_isSign_39 (by decide) ?_
    exact pg_zret (pc := 40) rfl rfl dX11_isSign_40 (k0 c0)
  · skip
    refine pg_aload_n (pc := 7) (i := 0) (j := 0) (x := 207) dX11_isSign_7 rfl rfl ?_
    refine gfX11_24 (pc := 8) rfl h0 dX11_isSign_8 ?_
    refine pg_aload_n (pc := 11) (i := 0) (j := 0) (x := 207) dX11_isSign_11 rfl rfl ?_
    refine gfX11_174 (pc := 12) rfl h0 dX11_isSign_12 ?_
    refine pg_iald (pc := 15) h0.2.2.1 (b0 c0) dX11_isSign_15 ?_
    refine pg_iconst (pc := 16) (v := 3) dX11_isSign_16 (by decide) ?_
    refine pg_icmp_ne (pc := 17) (tgt := 39) dX11_isSign_17 (by decide) (fun c1 => ?_) (fun c1 => ?_)
    · skip
      refine pg_iconst (pc := 39) (v := 0) dX11_isSign_39 (by decide) ?_
      exact pg_zret (pc := 40) rfl rfl dX11_isSign_40 (k1 c0 c1)
    · skip
      refine pg_aload_n (pc := 20) (i := 0) (j := 0) (x := 207) dX11_isSign_20 rfl rfl ?_
      refine gfX11_30 (pc := 21) rfl h0 dX11_isSign_21 ?_
      refine pg_aload_n (pc := 24) (i := 0) (j := 0) (x := 207) dX11_isSign_24 rfl rfl ?_
      refine gfX11_174 (pc := 25) rfl h0 dX11_isSign_25 ?_
      refine pg_lald (pc := 28) h0.2.2.2.2.1 (b0 c0) dX11_isSign_28 ?_
      refine pg_iload_n (pc := 29) (i := 1) (j := 1) (x := v1) dX11_isSign_29 rfl rfl ?_
      refine pg_i2l (pc := 30) dX11_isSign_30 rfl ?_
      refine pg_lcmp (pc := 31) dX11_isSign_31 ?_
      refine pg_if_ne (pc := 32) (tgt := 39) dX11_isSign_32 (by decide) (fun c2 => ?_) (fun c2 => ?_)
      · skip
        refine pg_iconst (pc := 39) (v := 0) dX11_isSign_39 (by decide) ?_
        exact pg_zret (pc := 40) rfl rfl dX11_isSign_40 (k2 c0 c1 c2)
      · skip
        refine pg_iconst (pc := 35) (v := 1) dX11_isSign_35 (by decide) ?_
        refine pg_goto (pc := 36) (tgt := 40) dX11_isSign_36 (by decide) ?_
        exact pg_zret (pc := 40) rfl rfl dX11_isSign_40 (k3 c0 c1 c2)
theorem oX11_isSign {d : Nat} {v1 : Int32} (h : pg_At S Λ YX11_isSign d 0 [(0, .ref 207), (1, .int v1)] [] M P) : pg_Ev S Λ YX11_isSign d [.ref 207, .int v1] M P := pg_Ev.of (by decide) (by first | decide | exact Nat.le_of_ble_eq_true rfl) h
theorem sX11_isWord_0 {v1 : Int32} 
    (h0 : pg_isX11 Λ)
    (k0 : (¬ (M.1 207 8) = 0) → P (some (.int 0)) M)
    (b0 : ((M.1 207 8) = 0) → vp_in (M.1 207 7) 1002)
    (k1 : ((M.1 207 8) = 0) → (¬ (M.1 209 (M.1 207 7).toNatClampNeg) = 1) → P (some (.int 0)) M)
    (b1 : ((M.1 207 8) = 0) → ((M.1 209 (M.1 207 7).toNatClampNeg) = 1) → vp_in v1 26)
    (k2 : ((M.1 207 8) = 0) → ((M.1 209 (M.1 207 7).toNatClampNeg) = 1) → (¬ (lg_cmp (M.2.1 211 (M.1 207 7).toNatClampNeg) (M.2.1 212 v1.toNatClampNeg)) = 0) → P (some (.int 0)) M)
    (k3 : ((M.1 207 8) = 0) → ((M.1 209 (M.1 207 7).toNatClampNeg) = 1) → ((lg_cmp (M.2.1 211 (M.1 207 7).toNatClampNeg) (M.2.1 212 v1.toNatClampNeg)) = 0) → P (some (.int 1)) M) :
    pg_At S Λ YX11_isWord d 0 [(0, .ref 207), (1, .int v1)] [] M P := by
  refine pg_aload_n (pc := 0) (i := 0) (j := 0) (x := 207) dX11_isWord_0 rfl rfl ?_
  refine gfX11_177 (pc := 1) rfl h0 dX11_isWord_1 ?_
  refine pg_if_ne (pc := 4) (tgt := 43) dX11_isWord_4 (by decide) (fun c0 => ?_) (fun c0 => ?_)
  · skip
    refine pg_iconst (pc := 43) (v := 0) dX11_isWord_43 (by decide) ?_
    exact pg_zret (pc := 44) rfl rfl dX11_isWord_44 (k0 c0)
  · skip
    refine pg_aload_n (pc := 7) (i := 0) (j := 0) (x := 207) dX11_isWord_7 rfl rfl ?_
    refine gfX11_24 (pc := 8) rfl h0 dX11_isWord_8 ?_
    refine pg_aload_n (pc := 11) (i := 0) (j := 0) (x := 207) dX11_isWord_11 rfl rfl ?_
    refine gfX11_174 (pc := 12) rfl h0 dX11_isWord_12 ?_
    refine pg_iald (pc := 15) h0.2.2.1 (b0 c0) dX11_isWord_15 ?_
    refine pg_iconst (pc := 16) (v := 1) dX11_isWord_16 (by decide) ?_
    refine pg_icmp_ne (pc := 17) (tgt := 43) dX11_isWord_17 (by decide) (fun c1 => ?_) (fun c1 => ?_)
    · skip
      refine pg_iconst (pc := 43) (v := 0) dX11_isWord_43 (by decide) ?_
      exact pg_zret (pc := 44) rfl rfl dX11_isWord_44 (k1 c0 c1)
    · skip
      refine pg_aload_n (pc := 20) (i := 0) (j := 0) (x := 207) dX11_isWord_20 rfl rfl ?_
      refine gfX11_30 (pc := 21) rfl h0 dX11_isWord_21 ?_
      refine pg_aload_n (pc := 24) (i := 0) (j := 0) (x := 207) dX11_isWord_24 rfl rfl ?_
      refine gfX11_174 (pc := 25) rfl h0 dX11_isWord_25 ?_
      refine pg_lald (pc := 28) h0.2.2.2.2.1 (b0 c0) dX11_isWord_28 ?_
      refine pg_aload_n (pc := 29) (i := 0) (j := 0) (x := 207) dX11_isWord_29 rfl rfl ?_
      refine gfX11_86 (pc := 30) rfl h0 dX11_isWord_30 ?_
      refine pg_iload_n (pc := 33) (i := 1) (j := 1) (x := v1) dX11_isWord_33 rfl rfl ?_
      refine pg_lald (pc := 34) h0.2.2.2.2.2.1 (b1 c0 c1) dX11_isWord_34 ?_
      refine pg_lcmp (pc := 35) dX11_isWord_35 ?_
      refine pg_if_ne (pc := 36) (tgt := 43) dX11_isWord_36 (by decide) (fun c2 => ?_) (fun c2 => ?_)
      · skip
        refine pg_iconst (pc := 43) (v := 0) dX11_isWord_43 (by decide) ?_
        exact pg_zret (pc := 44) rfl rfl dX11_isWord_44 (k2 c0 c1 c2)
      · skip
        refine pg_iconst (pc := 39) (v := 1) dX11_isWord_39 (by decide) ?_
        refine pg_goto (pc := 40) (tgt := 44) dX11_isWord_40 (by decide) ?_
        exact pg_zret (pc := 44) rfl rfl dX11_isWord_44 (k3 c0 c1 c2)
theorem oX11_isWord {d : Nat} {v1 : Int32} (h : pg_At S Λ YX11_isWord d 0 [(0, .ref 207), (1, .int v1)] [] M P) : pg_Ev S Λ YX11_isWord d [.ref 207, .int v1] M P := pg_Ev.of (by decide) (by first | decide | exact Nat.le_of_ble_eq_true rfl) h
theorem sX11_takeSign_0 {v1 : Int32} {Q0 : Int32 → pg_M → Prop} {Q1 : pg_M → Prop}
    (h0 : pg_isX11 Λ)
    (e0 : pg_Ev S Λ YX11_isSign d [.ref 207, .int v1] M (fun r M' => ∃ x, r = some (.int x) ∧ Q0 x M'))
    (e1 : ∀ x1 M1, Q0 x1 M1 → (x1 = 0) → pg_Ev S Λ YX11_wrong d [.ref 207, .int 1] M1 (fun r M' => r = none ∧ Q1 M'))
    (k0 : ∀ x1 M1, Q0 x1 M1 → (x1 = 0) → ∀ M2, Q1 M2 → P none M2)
    (k1 : ∀ x1 M1, Q0 x1 M1 → (¬ x1 = 0) → P none (pg_si M1 207 7 ((M1.1 207 7) + 1))) :
    pg_At S Λ YX11_takeSign (d + 1) 0 [(0, .ref 207), (1, .int v1)] [] M P := by
  refine pg_aload_n (pc := 0) (i := 0) (j := 0) (x := 207) dX11_takeSign_0 rfl rfl ?_
  refine pg_iload_n (pc := 1) (i := 1) (j := 1) (x := v1) dX11_takeSign_1 rfl rfl ?_
  refine pg_callV (pc := 2) (As := [.int v1]) (st := []) okX11_isSign lkX11_180 rfl h0.1 rfl (Nat.le_refl _) (Nat.le_of_ble_eq_true rfl) e0 dX11_takeSign_2 (fun r1 M1 w1 => ?_)
  obtain ⟨x1, rfl, w1⟩ := w1
  refine pg_if_eq (pc := 5) (tgt := 21) dX11_takeSign_5 (by decide) (fun c0 => ?_) (fun c0 => ?_)
  · skip
    refine pg_aload_n (pc := 21) (i := 0) (j := 0) (x := 207) dX11_takeSign_21 rfl rfl ?_
    refine pg_iconst (pc := 22) (v := 1) dX11_takeSign_22 (by decide) ?_
    refine pg_callV (pc := 23) (As := [.int 1]) (st := []) okX11_wrong lkX11_183 rfl h0.1 rfl (Nat.le_refl _) (Nat.le_of_ble_eq_true rfl) (e1 x1 M1 w1 c0) dX11_takeSign_23 (fun r2 M2 w2 => ?_)
    obtain ⟨rfl, w2⟩ := w2
    exact pg_vret (pc := 26) rfl dX11_takeSign_26 (k0 x1 M1 w1 c0 M2 w2)
  · skip
    refine pg_aload_n (pc := 8) (i := 0) (j := 0) (x := 207) dX11_takeSign_8 rfl rfl ?_
    refine pg_dup (pc := 9) dX11_takeSign_9 rfl ?_
    refine gfX11_174 (pc := 10) rfl h0 dX11_takeSign_10 ?_
    refine pg_iconst (pc := 13) (v := 1) dX11_takeSign_13 (by decide) ?_
    refine pg_iadd (pc := 14) dX11_takeSign_14 ?_
    refine pfX11_174 (pc := 15) rfl h0 dX11_takeSign_15 ?_
    refine pg_goto (pc := 18) (tgt := 26) dX11_takeSign_18 (by decide) ?_
    exact pg_vret (pc := 26) rfl dX11_takeSign_26 (k1 x1 M1 w1 c0)
theorem oX11_takeSign {d : Nat} {v1 : Int32} (h : pg_At S Λ YX11_takeSign d 0 [(0, .ref 207), (1, .int v1)] [] M P) : pg_Ev S Λ YX11_takeSign d [.ref 207, .int v1] M P := pg_Ev.of (by decide) (by first | decide | exact Nat.le_of_ble_eq_true rfl) h
theorem sX11_hasSign_0 {v1 : Int32} {Q0 : Int32 → pg_M → Prop}
    (h0 : pg_isX11 Λ)
    (e0 : pg_Ev S Λ YX11_isSign d [.ref 207, .int v1] M (fun r M' => ∃ x, r = some (.int x) ∧ Q0 x M'))
    (k0 : ∀ x1 M1, Q0 x1 M1 → (x1 = 0) → P (some (.int x1)) (pg_si M1 207 7 ((M1.1 207 7) + 0)))
    (b0 : ∀ x1 M1, Q0 x1 M1 → (x1 = 0) → narrow .boolean (.int x1) = .int x1)
    (k1 : ∀ x1 M1, Q0 x1 M1 → (¬ x1 = 0) → P (some (.int x1)) (pg_si M1 207 7 ((M1.1 207 7) + 1)))
    (b1 : ∀ x1 M1, Q0 x1 M1 → (¬ x1 = 0) → narrow .boolean (.int x1) = .int x1) :
    pg_At S Λ YX11_hasSign (d + 1) 0 [(0, .ref 207), (1, .int v1)] [] M P := by
  refine pg_aload_n (pc := 0) (i := 0) (j := 0) (x := 207) dX11_hasSign_0 rfl rfl ?_
  refine pg_iload_n (pc := 1) (i := 1) (j := 1) (x := v1) dX11_hasSign_1 rfl rfl ?_
  refine pg_callV (pc := 2) (As := [.int v1]) (st := []) okX11_isSign lkX11_180 rfl h0.1 rfl (Nat.le_refl _) (Nat.le_of_ble_eq_true rfl) e0 dX11_hasSign_2 (fun r1 M1 w1 => ?_)
  obtain ⟨x1, rfl, w1⟩ := w1
  refine pg_istore_n (pc := 5) (i := 2) (ls' := [(2, .int x1), (0, .ref 207), (1, .int v1)]) dX11_hasSign_5 rfl (by decide) rfl ?_
  refine pg_aload_n (pc := 6) (i := 0) (j := 1) (x := 207) dX11_hasSign_6 rfl rfl ?_
  refine pg_dup (pc := 7) dX11_hasSign_7 rfl ?_
  refine gfX11_174 (pc := 8) rfl h0 dX11_hasSign_8 ?_
  refine pg_iload_n (pc := 11) (i := 2) (j := 0) (x := x1) dX11_hasSign_11 rfl rfl ?_
  refine pg_if_eq (pc := 12) (tgt := 19) dX11_hasSign_12 (by decide) (fun c0 => ?_) (fun c0 => ?_)
  · skip
    refine pg_iconst (pc := 19) (v := 0) dX11_hasSign_19 (by decide) ?_
    refine pg_iadd (pc := 20) dX11_hasSign_20 ?_
    refine pfX11_174 (pc := 21) rfl h0 dX11_hasSign_21 ?_
    refine pg_iload_n (pc := 24) (i := 2) (j := 0) (x := x1) dX11_hasSign_24 rfl rfl ?_
    exact pg_zret (pc := 25) rfl (b0 x1 M1 w1 c0) dX11_hasSign_25 (k0 x1 M1 w1 c0)
  · skip
    refine pg_iconst (pc := 15) (v := 1) dX11_hasSign_15 (by decide) ?_
    refine pg_goto (pc := 16) (tgt := 20) dX11_hasSign_16 (by decide) ?_
    refine pg_iadd (pc := 20) dX11_hasSign_20 ?_
    refine pfX11_174 (pc := 21) rfl h0 dX11_hasSign_21 ?_
    refine pg_iload_n (pc := 24) (i := 2) (j := 0) (x := x1) dX11_hasSign_24 rfl rfl ?_
    exact pg_zret (pc := 25) rfl (b1 x1 M1 w1 c0) dX11_hasSign_25 (k1 x1 M1 w1 c0)
theorem oX11_hasSign {d : Nat} {v1 : Int32} (h : pg_At S Λ YX11_hasSign d 0 [(0, .ref 207), (1, .int v1)] [] M P) : pg_Ev S Λ YX11_hasSign d [.ref 207, .int v1] M P := pg_Ev.of (by decide) (by first | decide | exact Nat.le_of_ble_eq_true rfl) h
theorem sX11_hasWord_0 {v1 : Int32} {Q0 : Int32 → pg_M → Prop}
    (h0 : pg_isX11 Λ)
    (e0 : pg_Ev S Λ YX11_isWord d [.ref 207, .int v1] M (fun r M' => ∃ x, r = some (.int x) ∧ Q0 x M'))
    (k0 : ∀ x1 M1, Q0 x1 M1 → (x1 = 0) → P (some (.int x1)) (pg_si M1 207 7 ((M1.1 207 7) + 0)))
    (b0 : ∀ x1 M1, Q0 x1 M1 → (x1 = 0) → narrow .boolean (.int x1) = .int x1)
    (k1 : ∀ x1 M1, Q0 x1 M1 → (¬ x1 = 0) → P (some (.int x1)) (pg_si M1 207 7 ((M1.1 207 7) + 1)))
    (b1 : ∀ x1 M1, Q0 x1 M1 → (¬ x1 = 0) → narrow .boolean (.int x1) = .int x1) :
    pg_At S Λ YX11_hasWord (d + 1) 0 [(0, .ref 207), (1, .int v1)] [] M P := by
  refine pg_aload_n (pc := 0) (i := 0) (j := 0) (x := 207) dX11_hasWord_0 rfl rfl ?_
  refine pg_iload_n (pc := 1) (i := 1) (j := 1) (x := v1) dX11_hasWord_1 rfl rfl ?_
  refine pg_callV (pc := 2) (As := [.int v1]) (st := []) okX11_isWord lkX11_186 rfl h0.1 rfl (Nat.le_refl _) (Nat.le_of_ble_eq_true rfl) e0 dX11_hasWord_2 (fun r1 M1 w1 => ?_)
  obtain ⟨x1, rfl, w1⟩ := w1
  refine pg_istore_n (pc := 5) (i := 2) (ls' := [(2, .int x1), (0, .ref 207), (1, .int v1)]) dX11_hasWord_5 rfl (by decide) rfl ?_
  refine pg_aload_n (pc := 6) (i := 0) (j := 1) (x := 207) dX11_hasWord_6 rfl rfl ?_
  refine pg_dup (pc := 7) dX11_hasWord_7 rfl ?_
  refine gfX11_174 (pc := 8) rfl h0 dX11_hasWord_8 ?_
  refine pg_iload_n (pc := 11) (i := 2) (j := 0) (x := x1) dX11_hasWord_11 rfl rfl ?_
  refine pg_if_eq (pc := 12) (tgt := 19) dX11_hasWord_12 (by decide) (fun c0 => ?_) (fun c0 => ?_)
  · skip
    refine pg_iconst (pc := 19) (v := 0) dX11_hasWord_19 (by decide) ?_
    refine pg_iadd (pc := 20) dX11_hasWord_20 ?_
    refine pfX11_174 (pc := 21) rfl h0 dX11_hasWord_21 ?_
    refine pg_iload_n (pc := 24) (i := 2) (j := 0) (x := x1) dX11_hasWord_24 rfl rfl ?_
    exact pg_zret (pc := 25) rfl (b0 x1 M1 w1 c0) dX11_hasWord_25 (k0 x1 M1 w1 c0)
  · skip
    refine pg_iconst (pc := 15) (v := 1) dX11_hasWord_15 (by decide) ?_
    refine pg_goto (pc := 16) (tgt := 20) dX11_hasWord_16 (by decide) ?_
    refine pg_iadd (pc := 20) dX11_hasWord_20 ?_
    refine pfX11_174 (pc := 21) rfl h0 dX11_hasWord_21 ?_
    refine pg_iload_n (pc := 24) (i := 2) (j := 0) (x := x1) dX11_hasWord_24 rfl rfl ?_
    exact pg_zret (pc := 25) rfl (b1 x1 M1 w1 c0) dX11_hasWord_25 (k1 x1 M1 w1 c0)
theorem oX11_hasWord {d : Nat} {v1 : Int32} (h : pg_At S Λ YX11_hasWord d 0 [(0, .ref 207), (1, .int v1)] [] M P) : pg_Ev S Λ YX11_hasWord d [.ref 207, .int v1] M P := pg_Ev.of (by decide) (by first | decide | exact Nat.le_of_ble_eq_true rfl) h
theorem sX11_takeWord_0 {v1 : Int32} {Q0 : Int32 → pg_M → Prop} {Q1 : pg_M → Prop}
    (h0 : pg_isX11 Λ)
    (e0 : pg_Ev S Λ YX11_hasWord d [.ref 207, .int v1] M (fun r M' => ∃ x, r = some (.int x) ∧ Q0 x M'))
    (k0 : ∀ x1 M1, Q0 x1 M1 → (¬ x1 = 0) → P none M1)
    (e1 : ∀ x1 M1, Q0 x1 M1 → (x1 = 0) → pg_Ev S Λ YX11_wrong d [.ref 207, .int 1] M1 (fun r M' => r = none ∧ Q1 M'))
    (k1 : ∀ x1 M1, Q0 x1 M1 → (x1 = 0) → ∀ M2, Q1 M2 → P none M2) :
    pg_At S Λ YX11_takeWord (d + 1) 0 [(0, .ref 207), (1, .int v1)] [] M P := by
  refine pg_aload_n (pc := 0) (i := 0) (j := 0) (x := 207) dX11_takeWord_0 rfl rfl ?_
  refine pg_iload_n (pc := 1) (i := 1) (j := 1) (x := v1) dX11_takeWord_1 rfl rfl ?_
  refine pg_callV (pc := 2) (As := [.int v1]) (st := []) okX11_hasWord lkX11_189 rfl h0.1 rfl (Nat.le_refl _) (Nat.le_of_ble_eq_true rfl) e0 dX11_takeWord_2 (fun r1 M1 w1 => ?_)
  obtain ⟨x1, rfl, w1⟩ := w1
  refine pg_if_ne (pc := 5) (tgt := 13) dX11_takeWord_5 (by decide) (fun c0 => ?_) (fun c0 => ?_)
  · skip
    exact pg_vret (pc := 13) rfl dX11_takeWord_13 (k0 x1 M1 w1 c0)
  · skip
    refine pg_aload_n (pc := 8) (i := 0) (j := 0) (x := 207) dX11_takeWord_8 rfl rfl ?_
    refine pg_iconst (pc := 9) (v := 1) dX11_takeWord_9 (by decide) ?_
    refine pg_callV (pc := 10) (As := [.int 1]) (st := []) okX11_wrong lkX11_183 rfl h0.1 rfl (Nat.le_refl _) (Nat.le_of_ble_eq_true rfl) (e1 x1 M1 w1 c0) dX11_takeWord_10 (fun r2 M2 w2 => ?_)
    obtain ⟨rfl, w2⟩ := w2
    exact pg_vret (pc := 13) rfl dX11_takeWord_13 (k1 x1 M1 w1 c0 M2 w2)
theorem oX11_takeWord {d : Nat} {v1 : Int32} (h : pg_At S Λ YX11_takeWord d 0 [(0, .ref 207), (1, .int v1)] [] M P) : pg_Ev S Λ YX11_takeWord d [.ref 207, .int v1] M P := pg_Ev.of (by decide) (by first | decide | exact Nat.le_of_ble_eq_true rfl) h
theorem sX11_within_0 {v0 : Int32} {v1 : Int32} {v2 : Int32} 
    (k0 : (v0 < v1) → P (some (.int 0)) M)
    (k1 : (¬ v0 < v1) → (v2 < v0) → P (some (.int 0)) M)
    (k2 : (¬ v0 < v1) → (¬ v2 < v0) → P (some (.int 1)) M) :
    pg_At S Λ YX11_within d 0 [(0, .int v0), (1, .int v1), (2, .int v2)] [] M P := by
  refine pg_iload_n (pc := 0) (i := 0) (j := 0) (x := v0) dX11_within_0 rfl rfl ?_
  refine pg_iload_n (pc := 1) (i := 1) (j := 1) (x := v1) dX11_within_1 rfl rfl ?_
  refine pg_icmp_lt (pc := 2) (tgt := 14) dX11_within_2 (by decide) (fun c0 => ?_) (fun c0 => ?_)
  · skip
    refine pg_iconst (pc := 14) (v := 0) dX11_within_14 (by decide) ?_
    exact pg_zret (pc := 15) rfl rfl dX11_within_15 (k0 c0)
  · skip
    refine pg_iload_n (pc := 5) (i := 0) (j := 0) (x := v0) dX11_within_5 rfl rfl ?_
    refine pg_iload_n (pc := 6) (i := 2) (j := 2) (x := v2) dX11_within_6 rfl rfl ?_
    refine pg_icmp_gt (pc := 7) (tgt := 14) dX11_within_7 (by decide) (fun c1 => ?_) (fun c1 => ?_)
    · skip
      refine pg_iconst (pc := 14) (v := 0) dX11_within_14 (by decide) ?_
      exact pg_zret (pc := 15) rfl rfl dX11_within_15 (k1 c0 c1)
    · skip
      refine pg_iconst (pc := 10) (v := 1) dX11_within_10 (by decide) ?_
      refine pg_goto (pc := 11) (tgt := 15) dX11_within_11 (by decide) ?_
      exact pg_zret (pc := 15) rfl rfl dX11_within_15 (k2 c0 c1)
theorem oX11_within {d : Nat} {v0 : Int32} {v1 : Int32} {v2 : Int32} (h : pg_At S Λ YX11_within d 0 [(0, .int v0), (1, .int v1), (2, .int v2)] [] M P) : pg_Ev S Λ YX11_within d [.int v0, .int v1, .int v2] M P := pg_Ev.of (by decide) (by first | decide | exact Nat.le_of_ble_eq_true rfl) h
theorem sX11_standsAsAlways_0 {v1 : Int32} 
    (k0 : pg_At S Λ YX11_standsAsAlways d 2 [(0, .ref 207), (1, .int v1), (2, .int 0)] [] M P) :
    pg_At S Λ YX11_standsAsAlways d 0 [(0, .ref 207), (1, .int v1)] [] M P := by
  refine pg_iconst (pc := 0) (v := 0) dX11_standsAsAlways_0 (by decide) ?_
  refine pg_istore_n (pc := 1) (i := 2) (ls' := [(2, .int 0), (0, .ref 207), (1, .int v1)]) dX11_standsAsAlways_1 rfl (by decide) rfl ?_
  refine pg_drop (ks := [1, 2, 0]) (ls' := [(0, .ref 207), (1, .int v1), (2, .int 0)]) rfl ?_
  exact k0
theorem sX11_standsAsAlways_2 {v1 : Int32} {v2 : Int32} 
    (h0 : pg_isX11 Λ)
    (b0 : (100 ≤ v2) → vp_in (v1 + 2) 200)
    (b1 : (100 ≤ v2) → vp_in (v1 + 76) 200)
    (b2 : (100 ≤ v2) → vp_in (v1 + 3) 200)
    (b3 : (100 ≤ v2) → ∀ N1, N1 = pg_si (pg_si (pg_si M 213 (v1 + 2).toNatClampNeg 1) 213 (v1 + 76).toNatClampNeg 3) 213 (v1 + 3).toNatClampNeg 20 → vp_in (v1 + 6) 200)
    (b4 : (100 ≤ v2) → ∀ N1, N1 = pg_si (pg_si (pg_si M 213 (v1 + 2).toNatClampNeg 1) 213 (v1 + 76).toNatClampNeg 3) 213 (v1 + 3).toNatClampNeg 20 → vp_in ((v1 + 6) + 1) 200)
    (k0 : (100 ≤ v2) → ∀ N1, N1 = pg_si (pg_si (pg_si M 213 (v1 + 2).toNatClampNeg 1) 213 (v1 + 76).toNatClampNeg 3) 213 (v1 + 3).toNatClampNeg 20 → P none (pg_si (pg_si N1 213 (v1 + 6).toNatClampNeg (-1)) 213 ((v1 + 6) + 1).toNatClampNeg (-1)))
    (b5 : (¬ 100 ≤ v2) → vp_in (v1 + v2) 200)
    (k1 : (¬ 100 ≤ v2) → pg_At S Λ YX11_standsAsAlways d 2 [(0, .ref 207), (1, .int v1), (2, .int (v2 + 1))] [] (pg_si M 213 (v1 + v2).toNatClampNeg 0) P) :
    pg_At S Λ YX11_standsAsAlways d 2 [(0, .ref 207), (1, .int v1), (2, .int v2)] [] M P := by
  refine pg_iload_n (pc := 2) (i := 2) (j := 2) (x := v2) dX11_standsAsAlways_2 rfl rfl ?_
  refine pg_bipush (pc := 3) (v := 100) dX11_standsAsAlways_3 (by decide) ?_
  refine pg_icmp_ge (pc := 5) (tgt := 23) dX11_standsAsAlways_5 (by decide) (fun c0 => ?_) (fun c0 => ?_)
  · skip
    refine pg_aload_n (pc := 23) (i := 0) (j := 0) (x := 207) dX11_standsAsAlways_23 rfl rfl ?_
    refine gfX11_89 (pc := 24) rfl h0 dX11_standsAsAlways_24 ?_
    refine pg_iload_n (pc := 27) (i := 1) (j := 1) (x := v1) dX11_standsAsAlways_27 rfl rfl ?_
    refine pg_iconst (pc := 28) (v := 2) dX11_standsAsAlways_28 (by decide) ?_
    refine pg_iadd (pc := 29) dX11_standsAsAlways_29 ?_
    refine pg_iconst (pc := 30) (v := 1) dX11_standsAsAlways_30 (by decide) ?_
    refine pg_iast (pc := 31) h0.2.2.2.2.2.2.1 (b0 c0) dX11_standsAsAlways_31 ?_
    refine pg_aload_n (pc := 32) (i := 0) (j := 0) (x := 207) dX11_standsAsAlways_32 rfl rfl ?_
    refine gfX11_89 (pc := 33) rfl h0 dX11_standsAsAlways_33 ?_
    refine pg_iload_n (pc := 36) (i := 1) (j := 1) (x := v1) dX11_standsAsAlways_36 rfl rfl ?_
    refine pg_bipush (pc := 37) (v := 76) dX11_standsAsAlways_37 (by decide) ?_
    refine pg_iadd (pc := 39) dX11_standsAsAlways_39 ?_
    refine pg_iconst (pc := 40) (v := 3) dX11_standsAsAlways_40 (by decide) ?_
    refine pg_iast (pc := 41) h0.2.2.2.2.2.2.1 (b1 c0) dX11_standsAsAlways_41 ?_
    refine pg_aload_n (pc := 42) (i := 0) (j := 0) (x := 207) dX11_standsAsAlways_42 rfl rfl ?_
    refine gfX11_89 (pc := 43) rfl h0 dX11_standsAsAlways_43 ?_
    refine pg_iload_n (pc := 46) (i := 1) (j := 1) (x := v1) dX11_standsAsAlways_46 rfl rfl ?_
    refine pg_iconst (pc := 47) (v := 3) dX11_standsAsAlways_47 (by decide) ?_
    refine pg_iadd (pc := 48) dX11_standsAsAlways_48 ?_
    refine pg_bipush (pc := 49) (v := 20) dX11_standsAsAlways_49 (by decide) ?_
    refine pg_iast (pc := 51) h0.2.2.2.2.2.2.1 (b2 c0) dX11_standsAsAlways_51 ?_
    refine pg_named (fun N1 u1 => ?_)
    refine pg_aload_n (pc := 52) (i := 0) (j := 0) (x := 207) dX11_standsAsAlways_52 rfl rfl ?_
    refine gfX11_89 (pc := 53) rfl h0 dX11_standsAsAlways_53 ?_
    refine pg_iload_n (pc := 56) (i := 1) (j := 1) (x := v1) dX11_standsAsAlways_56 rfl rfl ?_
    refine pg_bipush (pc := 57) (v := 6) dX11_standsAsAlways_57 (by decide) ?_
    refine pg_iadd (pc := 59) dX11_standsAsAlways_59 ?_
    refine pg_iconst (pc := 60) (v := (-1)) dX11_standsAsAlways_60 (by decide) ?_
    refine pg_iast (pc := 61) h0.2.2.2.2.2.2.1 (b3 c0 N1 u1) dX11_standsAsAlways_61 ?_
    refine pg_aload_n (pc := 62) (i := 0) (j := 0) (x := 207) dX11_standsAsAlways_62 rfl rfl ?_
    refine gfX11_89 (pc := 63) rfl h0 dX11_standsAsAlways_63 ?_
    refine pg_iload_n (pc := 66) (i := 1) (j := 1) (x := v1) dX11_standsAsAlways_66 rfl rfl ?_
    refine pg_bipush (pc := 67) (v := 6) dX11_standsAsAlways_67 (by decide) ?_
    refine pg_iadd (pc := 69) dX11_standsAsAlways_69 ?_
    refine pg_iconst (pc := 70) (v := 1) dX11_standsAsAlways_70 (by decide) ?_
    refine pg_iadd (pc := 71) dX11_standsAsAlways_71 ?_
    refine pg_iconst (pc := 72) (v := (-1)) dX11_standsAsAlways_72 (by decide) ?_
    refine pg_iast (pc := 73) h0.2.2.2.2.2.2.1 (b4 c0 N1 u1) dX11_standsAsAlways_73 ?_
    exact pg_vret (pc := 74) rfl dX11_standsAsAlways_74 (k0 c0 N1 u1)
  · skip
    refine pg_aload_n (pc := 8) (i := 0) (j := 0) (x := 207) dX11_standsAsAlways_8 rfl rfl ?_
    refine gfX11_89 (pc := 9) rfl h0 dX11_standsAsAlways_9 ?_
    refine pg_iload_n (pc := 12) (i := 1) (j := 1) (x := v1) dX11_standsAsAlways_12 rfl rfl ?_
    refine pg_iload_n (pc := 13) (i := 2) (j := 2) (x := v2) dX11_standsAsAlways_13 rfl rfl ?_
    refine pg_iadd (pc := 14) dX11_standsAsAlways_14 ?_
    refine pg_iconst (pc := 15) (v := 0) dX11_standsAsAlways_15 (by decide) ?_
    refine pg_iast (pc := 16) h0.2.2.2.2.2.2.1 (b5 c0) dX11_standsAsAlways_16 ?_
    refine pg_iinc (pc := 17) (i := 2) (j := 2) (x := v2) (v := v2 + 1) (ls' := [(2, .int (v2 + 1)), (0, .ref 207), (1, .int v1)]) dX11_standsAsAlways_17 rfl rfl (by decide) rfl ?_
    refine pg_goto (pc := 20) (tgt := 2) dX11_standsAsAlways_20 (by decide) ?_
    refine pg_drop (ks := [1, 2, 0]) (ls' := [(0, .ref 207), (1, .int v1), (2, .int (v2 + 1))]) rfl ?_
    exact k1 c0
theorem oX11_standsAsAlways {d : Nat} {v1 : Int32} (h : pg_At S Λ YX11_standsAsAlways d 0 [(0, .ref 207), (1, .int v1)] [] M P) : pg_Ev S Λ YX11_standsAsAlways d [.ref 207, .int v1] M P := pg_Ev.of (by decide) (by first | decide | exact Nat.le_of_ble_eq_true rfl) h
theorem sX11_takeNumber_0 {v1 : Int32} {v2 : Int32} {Q0 : pg_M → Prop} {Q1 : pg_M → Prop} {Q2 : pg_M → Prop} {Q3 : pg_M → Prop} {Q4 : pg_M → Prop}
    (h0 : pg_isX11 Λ)
    (k0 : (¬ (M.1 207 8) = 0) → (¬ (M.1 207 8) = 0) → pg_At S Λ YX11_takeNumber (d + 1) 70 [(0, .ref 207)] [] M P)
    (b0 : (¬ (M.1 207 8) = 0) → ((M.1 207 8) = 0) → vp_in (M.1 207 7) 1002)
    (e0 : (¬ (M.1 207 8) = 0) → ((M.1 207 8) = 0) → ((lg_cmp (M.2.1 211 (M.1 207 7).toNatClampNeg) v1.toInt64) < 0) → pg_Ev S Λ YX11_wrong d [.ref 207, .int 4] M (fun r M' => r = none ∧ Q0 M'))
    (k1 : (¬ (M.1 207 8) = 0) → ((M.1 207 8) = 0) → ((lg_cmp (M.2.1 211 (M.1 207 7).toNatClampNeg) v1.toInt64) < 0) → ∀ M1, Q0 M1 → pg_At S Λ YX11_takeNumber (d + 1) 70 [(0, .ref 207)] [] M1 P)
    (k2 : (¬ (M.1 207 8) = 0) → ((M.1 207 8) = 0) → (¬ (lg_cmp (M.2.1 211 (M.1 207 7).toNatClampNeg) v1.toInt64) < 0) → ((lg_cmp (M.2.1 211 (M.1 207 7).toNatClampNeg) v2.toInt64) ≤ 0) → pg_At S Λ YX11_takeNumber (d + 1) 70 [(0, .ref 207)] [] M P)
    (e1 : (¬ (M.1 207 8) = 0) → ((M.1 207 8) = 0) → (¬ (lg_cmp (M.2.1 211 (M.1 207 7).toNatClampNeg) v1.toInt64) < 0) → (¬ (lg_cmp (M.2.1 211 (M.1 207 7).toNatClampNeg) v2.toInt64) ≤ 0) → pg_Ev S Λ YX11_wrong d [.ref 207, .int 4] M (fun r M' => r = none ∧ Q1 M'))
    (k3 : (¬ (M.1 207 8) = 0) → ((M.1 207 8) = 0) → (¬ (lg_cmp (M.2.1 211 (M.1 207 7).toNatClampNeg) v1.toInt64) < 0) → (¬ (lg_cmp (M.2.1 211 (M.1 207 7).toNatClampNeg) v2.toInt64) ≤ 0) → ∀ M2, Q1 M2 → pg_At S Λ YX11_takeNumber (d + 1) 70 [(0, .ref 207)] [] M2 P)
    (b1 : ((M.1 207 8) = 0) → vp_in (M.1 207 7) 1002)
    (k4 : ((M.1 207 8) = 0) → ((M.1 209 (M.1 207 7).toNatClampNeg) = 2) → (¬ (M.1 207 8) = 0) → pg_At S Λ YX11_takeNumber (d + 1) 70 [(0, .ref 207)] [] M P)
    (e2 : ((M.1 207 8) = 0) → ((M.1 209 (M.1 207 7).toNatClampNeg) = 2) → ((M.1 207 8) = 0) → ((lg_cmp (M.2.1 211 (M.1 207 7).toNatClampNeg) v1.toInt64) < 0) → pg_Ev S Λ YX11_wrong d [.ref 207, .int 4] M (fun r M' => r = none ∧ Q2 M'))
    (k5 : ((M.1 207 8) = 0) → ((M.1 209 (M.1 207 7).toNatClampNeg) = 2) → ((M.1 207 8) = 0) → ((lg_cmp (M.2.1 211 (M.1 207 7).toNatClampNeg) v1.toInt64) < 0) → ∀ M3, Q2 M3 → pg_At S Λ YX11_takeNumber (d + 1) 70 [(0, .ref 207)] [] M3 P)
    (k6 : ((M.1 207 8) = 0) → ((M.1 209 (M.1 207 7).toNatClampNeg) = 2) → ((M.1 207 8) = 0) → (¬ (lg_cmp (M.2.1 211 (M.1 207 7).toNatClampNeg) v1.toInt64) < 0) → ((lg_cmp (M.2.1 211 (M.1 207 7).toNatClampNeg) v2.toInt64) ≤ 0) → pg_At S Λ YX11_takeNumber (d + 1) 70 [(0, .ref 207)] [] M P)
    (e3 : ((M.1 207 8) = 0) → ((M.1 209 (M.1 207 7).toNatClampNeg) = 2) → ((M.1 207 8) = 0) → (¬ (lg_cmp (M.2.1 211 (M.1 207 7).toNatClampNeg) v1.toInt64) < 0) → (¬ (lg_cmp (M.2.1 211 (M.1 207 7).toNatClampNeg) v2.toInt64) ≤ 0) → pg_Ev S Λ YX11_wrong d [.ref 207, .int 4] M (fun r M' => r = none ∧ Q3 M'))
    (k7 : ((M.1 207 8) = 0) → ((M.1 209 (M.1 207 7).toNatClampNeg) = 2) → ((M.1 207 8) = 0) → (¬ (lg_cmp (M.2.1 211 (M.1 207 7).toNatClampNeg) v1.toInt64) < 0) → (¬ (lg_cmp (M.2.1 211 (M.1 207 7).toNatClampNeg) v2.toInt64) ≤ 0) → ∀ M4, Q3 M4 → pg_At S Λ YX11_takeNumber (d + 1) 70 [(0, .ref 207)] [] M4 P)
    (e4 : ((M.1 207 8) = 0) → (¬ (M.1 209 (M.1 207 7).toNatClampNeg) = 2) → pg_Ev S Λ YX11_wrong d [.ref 207, .int 1] M (fun r M' => r = none ∧ Q4 M'))
    (k8 : ((M.1 207 8) = 0) → (¬ (M.1 209 (M.1 207 7).toNatClampNeg) = 2) → ∀ M5, Q4 M5 → pg_At S Λ YX11_takeNumber (d + 1) 70 [(0, .ref 207)] [] M5 P) :
    pg_At S Λ YX11_takeNumber (d + 1) 0 [(0, .ref 207), (1, .int v1), (2, .int v2)] [] M P := by
  refine pg_aload_n (pc := 0) (i := 0) (j := 0) (x := 207) dX11_takeNumber_0 rfl rfl ?_
  refine gfX11_177 (pc := 1) rfl h0 dX11_takeNumber_1 ?_
  refine pg_if_ne (pc := 4) (tgt := 28) dX11_takeNumber_4 (by decide) (fun c0 => ?_) (fun c0 => ?_)
  · skip
    refine pg_aload_n (pc := 28) (i := 0) (j := 0) (x := 207) dX11_takeNumber_28 rfl rfl ?_
    refine gfX11_177 (pc := 29) rfl h0 dX11_takeNumber_29 ?_
    refine pg_if_ne (pc := 32) (tgt := 70) dX11_takeNumber_32 (by decide) (fun c1 => ?_) (fun c1 => ?_)
    · skip
      refine pg_drop (ks := [0]) (ls' := [(0, .ref 207)]) rfl ?_
      exact k0 c0 c1
    · skip
      refine pg_aload_n (pc := 35) (i := 0) (j := 0) (x := 207) dX11_takeNumber_35 rfl rfl ?_
      refine gfX11_30 (pc := 36) rfl h0 dX11_takeNumber_36 ?_
      refine pg_aload_n (pc := 39) (i := 0) (j := 0) (x := 207) dX11_takeNumber_39 rfl rfl ?_
      refine gfX11_174 (pc := 40) rfl h0 dX11_takeNumber_40 ?_
      refine pg_lald (pc := 43) h0.2.2.2.2.1 (b0 c0 c1) dX11_takeNumber_43 ?_
      refine pg_iload_n (pc := 44) (i := 1) (j := 1) (x := v1) dX11_takeNumber_44 rfl rfl ?_
      refine pg_i2l (pc := 45) dX11_takeNumber_45 rfl ?_
      refine pg_lcmp (pc := 46) dX11_takeNumber_46 ?_
      refine pg_if_lt (pc := 47) (tgt := 65) dX11_takeNumber_47 (by decide) (fun c2 => ?_) (fun c2 => ?_)
      · skip
        refine pg_aload_n (pc := 65) (i := 0) (j := 0) (x := 207) dX11_takeNumber_65 rfl rfl ?_
        refine pg_iconst (pc := 66) (v := 4) dX11_takeNumber_66 (by decide) ?_
        refine pg_callV (pc := 67) (As := [.int 4]) (st := []) okX11_wrong lkX11_183 rfl h0.1 rfl (Nat.le_refl _) (Nat.le_of_ble_eq_true rfl) (e0 c0 c1 c2) dX11_takeNumber_67 (fun r1 M1 w1 => ?_)
        obtain ⟨rfl, w1⟩ := w1
        refine pg_drop (ks := [0]) (ls' := [(0, .ref 207)]) rfl ?_
        exact k1 c0 c1 c2 M1 w1
      · skip
        refine pg_aload_n (pc := 50) (i := 0) (j := 0) (x := 207) dX11_takeNumber_50 rfl rfl ?_
        refine gfX11_30 (pc := 51) rfl h0 dX11_takeNumber_51 ?_
        refine pg_aload_n (pc := 54) (i := 0) (j := 0) (x := 207) dX11_takeNumber_54 rfl rfl ?_
        refine gfX11_174 (pc := 55) rfl h0 dX11_takeNumber_55 ?_
        refine pg_lald (pc := 58) h0.2.2.2.2.1 (b0 c0 c1) dX11_takeNumber_58 ?_
        refine pg_iload_n (pc := 59) (i := 2) (j := 2) (x := v2) dX11_takeNumber_59 rfl rfl ?_
        refine pg_i2l (pc := 60) dX11_takeNumber_60 rfl ?_
        refine pg_lcmp (pc := 61) dX11_takeNumber_61 ?_
        refine pg_if_le (pc := 62) (tgt := 70) dX11_takeNumber_62 (by decide) (fun c3 => ?_) (fun c3 => ?_)
        · skip
          refine pg_drop (ks := [0]) (ls' := [(0, .ref 207)]) rfl ?_
          exact k2 c0 c1 c2 c3
        · skip
          refine pg_aload_n (pc := 65) (i := 0) (j := 0) (x := 207) dX11_takeNumber_65 rfl rfl ?_
          refine pg_iconst (pc := 66) (v := 4) dX11_takeNumber_66 (by decide) ?_
          refine pg_callV (pc := 67) (As := [.int 4]) (st := []) okX11_wrong lkX11_183 rfl h0.1 rfl (Nat.le_refl _) (Nat.le_of_ble_eq_true rfl) (e1 c0 c1 c2 c3) dX11_takeNumber_67 (fun r2 M2 w2 => ?_)
          obtain ⟨rfl, w2⟩ := w2
          refine pg_drop (ks := [0]) (ls' := [(0, .ref 207)]) rfl ?_
          exact k3 c0 c1 c2 c3 M2 w2
  · skip
    refine pg_aload_n (pc := 7) (i := 0) (j := 0) (x := 207) dX11_takeNumber_7 rfl rfl ?_
    refine gfX11_24 (pc := 8) rfl h0 dX11_takeNumber_8 ?_
    refine pg_aload_n (pc := 11) (i := 0) (j := 0) (x := 207) dX11_takeNumber_11 rfl rfl ?_
    refine gfX11_174 (pc := 12) rfl h0 dX11_takeNumber_12 ?_
    refine pg_iald (pc := 15) h0.2.2.1 (b1 c0) dX11_takeNumber_15 ?_
    refine pg_iconst (pc := 16) (v := 2) dX11_takeNumber_16 (by decide) ?_
    refine pg_icmp_eq (pc := 17) (tgt := 28) dX11_takeNumber_17 (by decide) (fun c1 => ?_) (fun c1 => ?_)
    · skip
      refine pg_aload_n (pc := 28) (i := 0) (j := 0) (x := 207) dX11_takeNumber_28 rfl rfl ?_
      refine gfX11_177 (pc := 29) rfl h0 dX11_takeNumber_29 ?_
      refine pg_if_ne (pc := 32) (tgt := 70) dX11_takeNumber_32 (by decide) (fun c2 => ?_) (fun c2 => ?_)
      · skip
        refine pg_drop (ks := [0]) (ls' := [(0, .ref 207)]) rfl ?_
        exact k4 c0 c1 c2
      · skip
        refine pg_aload_n (pc := 35) (i := 0) (j := 0) (x := 207) dX11_takeNumber_35 rfl rfl ?_
        refine gfX11_30 (pc := 36) rfl h0 dX11_takeNumber_36 ?_
        refine pg_aload_n (pc := 39) (i := 0) (j := 0) (x := 207) dX11_takeNumber_39 rfl rfl ?_
        refine gfX11_174 (pc := 40) rfl h0 dX11_takeNumber_40 ?_
        refine pg_lald (pc := 43) h0.2.2.2.2.1 (b1 c0) dX11_takeNumber_43 ?_
        refine pg_iload_n (pc := 44) (i := 1) (j := 1) (x := v1) dX11_takeNumber_44 rfl rfl ?_
        refine pg_i2l (pc := 45) dX11_takeNumber_45 rfl ?_
        refine pg_lcmp (pc := 46) dX11_takeNumber_46 ?_
        refine pg_if_lt (pc := 47) (tgt := 65) dX11_takeNumber_47 (by decide) (fun c3 => ?_) (fun c3 => ?_)
        · skip
          refine pg_aload_n (pc := 65) (i := 0) (j := 0) (x := 207) dX11_takeNumber_65 rfl rfl ?_
          refine pg_iconst (pc := 66) (v := 4) dX11_takeNumber_66 (by decide) ?_
          refine pg_callV (pc := 67) (As := [.int 4]) (st := []) okX11_wrong lkX11_183 rfl h0.1 rfl (Nat.le_refl _) (Nat.le_of_ble_eq_true rfl) (e2 c0 c1 c2 c3) dX11_takeNumber_67 (fun r3 M3 w3 => ?_)
          obtain ⟨rfl, w3⟩ := w3
          refine pg_drop (ks := [0]) (ls' := [(0, .ref 207)]) rfl ?_
          exact k5 c0 c1 c2 c3 M3 w3
        · skip
          refine pg_aload_n (pc := 50) (i := 0) (j := 0) (x := 207) dX11_takeNumber_50 rfl rfl ?_
          refine gfX11_30 (pc := 51) rfl h0 dX11_takeNumber_51 ?_
          refine pg_aload_n (pc := 54) (i := 0) (j := 0) (x := 207) dX11_takeNumber_54 rfl rfl ?_
          refine gfX11_174 (pc := 55) rfl h0 dX11_takeNumber_55 ?_
          refine pg_lald (pc := 58) h0.2.2.2.2.1 (b1 c0) dX11_takeNumber_58 ?_
          refine pg_iload_n (pc := 59) (i := 2) (j := 2) (x := v2) dX11_takeNumber_59 rfl rfl ?_
          refine pg_i2l (pc := 60) dX11_takeNumber_60 rfl ?_
          refine pg_lcmp (pc := 61) dX11_takeNumber_61 ?_
          refine pg_if_le (pc := 62) (tgt := 70) dX11_takeNumber_62 (by decide) (fun c4 => ?_) (fun c4 => ?_)
          · skip
            refine pg_drop (ks := [0]) (ls' := [(0, .ref 207)]) rfl ?_
            exact k6 c0 c1 c2 c3 c4
          · skip
            refine pg_aload_n (pc := 65) (i := 0) (j := 0) (x := 207) dX11_takeNumber_65 rfl rfl ?_
            refine pg_iconst (pc := 66) (v := 4) dX11_takeNumber_66 (by decide) ?_
            refine pg_callV (pc := 67) (As := [.int 4]) (st := []) okX11_wrong lkX11_183 rfl h0.1 rfl (Nat.le_refl _) (Nat.le_of_ble_eq_true rfl) (e3 c0 c1 c2 c3 c4) dX11_takeNumber_67 (fun r4 M4 w4 => ?_)
            obtain ⟨rfl, w4⟩ := w4
            refine pg_drop (ks := [0]) (ls' := [(0, .ref 207)]) rfl ?_
            exact k7 c0 c1 c2 c3 c4 M4 w4
    · skip
      refine pg_aload_n (pc := 20) (i := 0) (j := 0) (x := 207) dX11_takeNumber_20 rfl rfl ?_
      refine pg_iconst (pc := 21) (v := 1) dX11_takeNumber_21 (by decide) ?_
      refine pg_callV (pc := 22) (As := [.int 1]) (st := []) okX11_wrong lkX11_183 rfl h0.1 rfl (Nat.le_refl _) (Nat.le_of_ble_eq_true rfl) (e4 c0 c1) dX11_takeNumber_22 (fun r5 M5 w5 => ?_)
      obtain ⟨rfl, w5⟩ := w5
      refine pg_goto (pc := 25) (tgt := 70) dX11_takeNumber_25 (by decide) ?_
      refine pg_drop (ks := [0]) (ls' := [(0, .ref 207)]) rfl ?_
      exact k8 c0 c1 M5 w5
theorem sX11_takeNumber_70  
    (h0 : pg_isX11 Λ)
    (b0 : ((M.1 207 8) ≤ 0) → vp_in (((pg_si M 207 7 ((M.1 207 7) + 1)).1 207 7) - 1) 1002)
    (k0 : ((M.1 207 8) ≤ 0) → P (some (.int (((pg_si M 207 7 ((M.1 207 7) + 1)).2.1 211 (((pg_si M 207 7 ((M.1 207 7) + 1)).1 207 7) - 1).toNatClampNeg).toInt32))) (pg_si M 207 7 ((M.1 207 7) + 1)))
    (k1 : (¬ (M.1 207 8) ≤ 0) → P (some (.int 0)) M) :
    pg_At S Λ YX11_takeNumber (d + 1) 70 [(0, .ref 207)] [] M P := by
  refine pg_aload_n (pc := 70) (i := 0) (j := 0) (x := 207) dX11_takeNumber_70 rfl rfl ?_
  refine gfX11_177 (pc := 71) rfl h0 dX11_takeNumber_71 ?_
  refine pg_if_le (pc := 74) (tgt := 79) dX11_takeNumber_74 (by decide) (fun c0 => ?_) (fun c0 => ?_)
  · skip
    refine pg_aload_n (pc := 79) (i := 0) (j := 0) (x := 207) dX11_takeNumber_79 rfl rfl ?_
    refine pg_dup (pc := 80) dX11_takeNumber_80 rfl ?_
    refine gfX11_174 (pc := 81) rfl h0 dX11_takeNumber_81 ?_
    refine pg_iconst (pc := 84) (v := 1) dX11_takeNumber_84 (by decide) ?_
    refine pg_iadd (pc := 85) dX11_takeNumber_85 ?_
    refine pfX11_174 (pc := 86) rfl h0 dX11_takeNumber_86 ?_
    refine pg_aload_n (pc := 89) (i := 0) (j := 0) (x := 207) dX11_takeNumber_89 rfl rfl ?_
    refine gfX11_30 (pc := 90) rfl h0 dX11_takeNumber_90 ?_
    refine pg_aload_n (pc := 93) (i := 0) (j := 0) (x := 207) dX11_takeNumber_93 rfl rfl ?_
    refine gfX11_174 (pc := 94) rfl h0 dX11_takeNumber_94 ?_
    refine pg_iconst (pc := 97) (v := 1) dX11_takeNumber_97 (by decide) ?_
    refine pg_isub (pc := 98) dX11_takeNumber_98 ?_
    refine pg_lald (pc := 99) h0.2.2.2.2.1 (b0 c0) dX11_takeNumber_99 ?_
    refine pg_l2i (pc := 100) dX11_takeNumber_100 rfl ?_
    exact pg_iret (pc := 101) rfl dX11_takeNumber_101 (k0 c0)
  · skip
    refine pg_iconst (pc := 77) (v := 0) dX11_takeNumber_77 (by decide) ?_
    exact pg_iret (pc := 78) rfl dX11_takeNumber_78 (k1 c0)
theorem oX11_takeNumber {d : Nat} {v1 : Int32} {v2 : Int32} (h : pg_At S Λ YX11_takeNumber d 0 [(0, .ref 207), (1, .int v1), (2, .int v2)] [] M P) : pg_Ev S Λ YX11_takeNumber d [.ref 207, .int v1, .int v2] M P := pg_Ev.of (by decide) (by first | decide | exact Nat.le_of_ble_eq_true rfl) h
theorem sX11_takeAfter_0 {v1 : Int32} {v2 : Int32} {v3 : Int32} {Q0 : pg_M → Prop} {Q1 : Int32 → pg_M → Prop}
    (h0 : pg_isX11 Λ)
    (e0 : pg_Ev S Λ YX11_takeWord d [.ref 207, .int v1] M (fun r M' => r = none ∧ Q0 M'))
    (e1 : ∀ M1, Q0 M1 → pg_Ev S Λ YX11_takeNumber d [.ref 207, .int v2, .int v3] M1 (fun r M' => ∃ x, r = some (.int x) ∧ Q1 x M'))
    (k0 : ∀ M1, Q0 M1 → ∀ x2 M2, Q1 x2 M2 → P (some (.int x2)) M2) :
    pg_At S Λ YX11_takeAfter (d + 1) 0 [(0, .ref 207), (1, .int v1), (2, .int v2), (3, .int v3)] [] M P := by
  refine pg_aload_n (pc := 0) (i := 0) (j := 0) (x := 207) dX11_takeAfter_0 rfl rfl ?_
  refine pg_iload_n (pc := 1) (i := 1) (j := 1) (x := v1) dX11_takeAfter_1 rfl rfl ?_
  refine pg_callV (pc := 2) (As := [.int v1]) (st := []) okX11_takeWord lkX11_192 rfl h0.1 rfl (Nat.le_refl _) (Nat.le_of_ble_eq_true rfl) e0 dX11_takeAfter_2 (fun r1 M1 w1 => ?_)
  obtain ⟨rfl, w1⟩ := w1
  refine pg_aload_n (pc := 5) (i := 0) (j := 0) (x := 207) dX11_takeAfter_5 rfl rfl ?_
  refine pg_iload_n (pc := 6) (i := 2) (j := 2) (x := v2) dX11_takeAfter_6 rfl rfl ?_
  refine pg_iload_n (pc := 7) (i := 3) (j := 3) (x := v3) dX11_takeAfter_7 rfl rfl ?_
  refine pg_callV (pc := 8) (As := [.int v2, .int v3]) (st := []) okX11_takeNumber lkX11_195 rfl h0.1 rfl (Nat.le_refl _) (Nat.le_of_ble_eq_true rfl) (e1 M1 w1) dX11_takeAfter_8 (fun r2 M2 w2 => ?_)
  obtain ⟨x2, rfl, w2⟩ := w2
  exact pg_iret (pc := 11) rfl dX11_takeAfter_11 (k0 M1 w1 x2 M2 w2)
theorem oX11_takeAfter {d : Nat} {v1 : Int32} {v2 : Int32} {v3 : Int32} (h : pg_At S Λ YX11_takeAfter d 0 [(0, .ref 207), (1, .int v1), (2, .int v2), (3, .int v3)] [] M P) : pg_Ev S Λ YX11_takeAfter d [.ref 207, .int v1, .int v2, .int v3] M P := pg_Ev.of (by decide) (by first | decide | exact Nat.le_of_ble_eq_true rfl) h
theorem sX11_wordHere_0 {v1 : Int32} {v2 : Int32} 
    (k0 : pg_At S Λ YX11_wordHere (d + 1) 5 [(0, .ref 207), (1, .int v1), (2, .int v2), (3, .int (-1)), (4, .int 0)] [] M P) :
    pg_At S Λ YX11_wordHere (d + 1) 0 [(0, .ref 207), (1, .int v1), (2, .int v2)] [] M P := by
  refine pg_iconst (pc := 0) (v := (-1)) dX11_wordHere_0 (by decide) ?_
  refine pg_istore_n (pc := 1) (i := 3) (ls' := [(3, .int (-1)), (0, .ref 207), (1, .int v1), (2, .int v2)]) dX11_wordHere_1 rfl (by decide) rfl ?_
  refine pg_iconst (pc := 2) (v := 0) dX11_wordHere_2 (by decide) ?_
  refine pg_istore (pc := 3) (i := 4) (ls' := [(4, .int 0), (3, .int (-1)), (0, .ref 207), (1, .int v1), (2, .int v2)]) dX11_wordHere_3 (by decide) rfl ?_
  refine pg_drop (ks := [2, 3, 4, 1, 0]) (ls' := [(0, .ref 207), (1, .int v1), (2, .int v2), (3, .int (-1)), (4, .int 0)]) rfl ?_
  exact k0
theorem sX11_wordHere_5 {v1 : Int32} {v2 : Int32} {v3 : Int32} {v4 : Int32} {Q0 : Int32 → pg_M → Prop}
    (h0 : pg_isX11 Λ)
    (k0 : (v2 ≤ v4) → P (some (.int v3)) M)
    (e0 : (¬ v2 ≤ v4) → pg_Ev S Λ YX11_isWord d [.ref 207, .int (v1 + v4)] M (fun r M' => ∃ x, r = some (.int x) ∧ Q0 x M'))
    (k1 : (¬ v2 ≤ v4) → ∀ x1 M1, Q0 x1 M1 → (x1 = 0) → pg_At S Λ YX11_wordHere (d + 1) 5 [(0, .ref 207), (1, .int v1), (2, .int v2), (3, .int v3), (4, .int (v4 + 1))] [] M1 P)
    (k2 : (¬ v2 ≤ v4) → ∀ x1 M1, Q0 x1 M1 → (¬ x1 = 0) → pg_At S Λ YX11_wordHere (d + 1) 5 [(0, .ref 207), (1, .int v1), (2, .int v2), (3, .int v4), (4, .int (v4 + 1))] [] M1 P) :
    pg_At S Λ YX11_wordHere (d + 1) 5 [(0, .ref 207), (1, .int v1), (2, .int v2), (3, .int v3), (4, .int v4)] [] M P := by
  refine pg_iload (pc := 5) (i := 4) (j := 4) (x := v4) dX11_wordHere_5 rfl ?_
  refine pg_iload_n (pc := 7) (i := 2) (j := 2) (x := v2) dX11_wordHere_7 rfl rfl ?_
  refine pg_icmp_ge (pc := 8) (tgt := 35) dX11_wordHere_8 (by decide) (fun c0 => ?_) (fun c0 => ?_)
  · skip
    refine pg_iload_n (pc := 35) (i := 3) (j := 3) (x := v3) dX11_wordHere_35 rfl rfl ?_
    exact pg_iret (pc := 36) rfl dX11_wordHere_36 (k0 c0)
  · skip
    refine pg_aload_n (pc := 11) (i := 0) (j := 0) (x := 207) dX11_wordHere_11 rfl rfl ?_
    refine pg_iload_n (pc := 12) (i := 1) (j := 1) (x := v1) dX11_wordHere_12 rfl rfl ?_
    refine pg_iload (pc := 13) (i := 4) (j := 4) (x := v4) dX11_wordHere_13 rfl ?_
    refine pg_iadd (pc := 15) dX11_wordHere_15 ?_
    refine pg_callV (pc := 16) (As := [.int (v1 + v4)]) (st := []) okX11_isWord lkX11_186 rfl h0.1 rfl (Nat.le_refl _) (Nat.le_of_ble_eq_true rfl) (e0 c0) dX11_wordHere_16 (fun r1 M1 w1 => ?_)
    obtain ⟨x1, rfl, w1⟩ := w1
    refine pg_if_eq (pc := 19) (tgt := 27) dX11_wordHere_19 (by decide) (fun c1 => ?_) (fun c1 => ?_)
    · skip
      refine pg_iload_n (pc := 27) (i := 3) (j := 3) (x := v3) dX11_wordHere_27 rfl rfl ?_
      refine pg_istore_n (pc := 28) (i := 3) (ls' := [(3, .int v3), (0, .ref 207), (1, .int v1), (2, .int v2), (4, .int v4)]) dX11_wordHere_28 rfl (by decide) rfl ?_
      refine pg_iinc (pc := 29) (i := 4) (j := 4) (x := v4) (v := v4 + 1) (ls' := [(4, .int (v4 + 1)), (3, .int v3), (0, .ref 207), (1, .int v1), (2, .int v2)]) dX11_wordHere_29 rfl rfl (by decide) rfl ?_
      refine pg_goto (pc := 32) (tgt := 5) dX11_wordHere_32 (by decide) ?_
      refine pg_drop (ks := [2, 3, 4, 1, 0]) (ls' := [(0, .ref 207), (1, .int v1), (2, .int v2), (3, .int v3), (4, .int (v4 + 1))]) rfl ?_
      exact k1 c0 x1 M1 w1 c1
    · skip
      refine pg_iload (pc := 22) (i := 4) (j := 4) (x := v4) dX11_wordHere_22 rfl ?_
      refine pg_goto (pc := 24) (tgt := 28) dX11_wordHere_24 (by decide) ?_
      refine pg_istore_n (pc := 28) (i := 3) (ls' := [(3, .int v4), (0, .ref 207), (1, .int v1), (2, .int v2), (4, .int v4)]) dX11_wordHere_28 rfl (by decide) rfl ?_
      refine pg_iinc (pc := 29) (i := 4) (j := 4) (x := v4) (v := v4 + 1) (ls' := [(4, .int (v4 + 1)), (3, .int v4), (0, .ref 207), (1, .int v1), (2, .int v2)]) dX11_wordHere_29 rfl rfl (by decide) rfl ?_
      refine pg_goto (pc := 32) (tgt := 5) dX11_wordHere_32 (by decide) ?_
      refine pg_drop (ks := [2, 3, 4, 1, 0]) (ls' := [(0, .ref 207), (1, .int v1), (2, .int v2), (3, .int v4), (4, .int (v4 + 1))]) rfl ?_
      exact k2 c0 x1 M1 w1 c1
theorem oX11_wordHere {d : Nat} {v1 : Int32} {v2 : Int32} (h : pg_At S Λ YX11_wordHere d 0 [(0, .ref 207), (1, .int v1), (2, .int v2)] [] M P) : pg_Ev S Λ YX11_wordHere d [.ref 207, .int v1, .int v2] M P := pg_Ev.of (by decide) (by first | decide | exact Nat.le_of_ble_eq_true rfl) h
theorem sX11_takeOne_0 {v1 : Int32} {v2 : Int32} {Q0 : Int32 → pg_M → Prop}
    (h0 : pg_isX11 Λ)
    (e0 : ((M.1 207 8) ≤ 0) → pg_Ev S Λ YX11_wordHere d [.ref 207, .int v1, .int v2] M (fun r M' => ∃ x, r = some (.int x) ∧ Q0 x M'))
    (k0 : ((M.1 207 8) ≤ 0) → ∀ x1 M1, Q0 x1 M1 → pg_At S Λ YX11_takeOne (d + 1) 17 [(0, .ref 207)] [.int x1] M1 P)
    (k1 : (¬ (M.1 207 8) ≤ 0) → pg_At S Λ YX11_takeOne (d + 1) 17 [(0, .ref 207)] [.int (-1)] M P) :
    pg_At S Λ YX11_takeOne (d + 1) 0 [(0, .ref 207), (1, .int v1), (2, .int v2)] [] M P := by
  refine pg_aload_n (pc := 0) (i := 0) (j := 0) (x := 207) dX11_takeOne_0 rfl rfl ?_
  refine gfX11_177 (pc := 1) rfl h0 dX11_takeOne_1 ?_
  refine pg_if_le (pc := 4) (tgt := 11) dX11_takeOne_4 (by decide) (fun c0 => ?_) (fun c0 => ?_)
  · skip
    refine pg_aload_n (pc := 11) (i := 0) (j := 0) (x := 207) dX11_takeOne_11 rfl rfl ?_
    refine pg_iload_n (pc := 12) (i := 1) (j := 1) (x := v1) dX11_takeOne_12 rfl rfl ?_
    refine pg_iload_n (pc := 13) (i := 2) (j := 2) (x := v2) dX11_takeOne_13 rfl rfl ?_
    refine pg_callV (pc := 14) (As := [.int v1, .int v2]) (st := []) okX11_wordHere lkX11_199 rfl h0.1 rfl (Nat.le_refl _) (Nat.le_of_ble_eq_true rfl) (e0 c0) dX11_takeOne_14 (fun r1 M1 w1 => ?_)
    obtain ⟨x1, rfl, w1⟩ := w1
    refine pg_drop (ks := [0]) (ls' := [(0, .ref 207)]) rfl ?_
    exact k0 c0 x1 M1 w1
  · skip
    refine pg_iconst (pc := 7) (v := (-1)) dX11_takeOne_7 (by decide) ?_
    refine pg_goto (pc := 8) (tgt := 17) dX11_takeOne_8 (by decide) ?_
    refine pg_drop (ks := [0]) (ls' := [(0, .ref 207)]) rfl ?_
    exact k1 c0
theorem sX11_takeOne_17 {s0 : Int32} {Q0 : pg_M → Prop}
    (h0 : pg_isX11 Λ)
    (k0 : (¬ (M.1 207 8) = 0) → pg_At S Λ YX11_takeOne (d + 1) 34 [(0, .ref 207), (3, .int s0)] [] M P)
    (k1 : ((M.1 207 8) = 0) → (0 ≤ s0) → pg_At S Λ YX11_takeOne (d + 1) 34 [(0, .ref 207), (3, .int s0)] [] M P)
    (e0 : ((M.1 207 8) = 0) → (¬ 0 ≤ s0) → pg_Ev S Λ YX11_wrong d [.ref 207, .int 1] M (fun r M' => r = none ∧ Q0 M'))
    (k2 : ((M.1 207 8) = 0) → (¬ 0 ≤ s0) → ∀ M1, Q0 M1 → pg_At S Λ YX11_takeOne (d + 1) 34 [(0, .ref 207), (3, .int s0)] [] M1 P) :
    pg_At S Λ YX11_takeOne (d + 1) 17 [(0, .ref 207)] [.int s0] M P := by
  refine pg_istore_n (pc := 17) (i := 3) (ls' := [(3, .int s0), (0, .ref 207)]) dX11_takeOne_17 rfl (by decide) rfl ?_
  refine pg_aload_n (pc := 18) (i := 0) (j := 1) (x := 207) dX11_takeOne_18 rfl rfl ?_
  refine gfX11_177 (pc := 19) rfl h0 dX11_takeOne_19 ?_
  refine pg_if_ne (pc := 22) (tgt := 34) dX11_takeOne_22 (by decide) (fun c0 => ?_) (fun c0 => ?_)
  · skip
    refine pg_drop (ks := [1, 0]) (ls' := [(0, .ref 207), (3, .int s0)]) rfl ?_
    exact k0 c0
  · skip
    refine pg_iload_n (pc := 25) (i := 3) (j := 0) (x := s0) dX11_takeOne_25 rfl rfl ?_
    refine pg_if_ge (pc := 26) (tgt := 34) dX11_takeOne_26 (by decide) (fun c1 => ?_) (fun c1 => ?_)
    · skip
      refine pg_drop (ks := [1, 0]) (ls' := [(0, .ref 207), (3, .int s0)]) rfl ?_
      exact k1 c0 c1
    · skip
      refine pg_aload_n (pc := 29) (i := 0) (j := 1) (x := 207) dX11_takeOne_29 rfl rfl ?_
      refine pg_iconst (pc := 30) (v := 1) dX11_takeOne_30 (by decide) ?_
      refine pg_callV (pc := 31) (As := [.int 1]) (st := []) okX11_wrong lkX11_183 rfl h0.1 rfl (Nat.le_refl _) (Nat.le_of_ble_eq_true rfl) (e0 c0 c1) dX11_takeOne_31 (fun r1 M1 w1 => ?_)
      obtain ⟨rfl, w1⟩ := w1
      refine pg_drop (ks := [1, 0]) (ls' := [(0, .ref 207), (3, .int s0)]) rfl ?_
      exact k2 c0 c1 M1 w1
theorem sX11_takeOne_34 {v3 : Int32} 
    (h0 : pg_isX11 Λ)
    (k0 : ((M.1 207 8) ≤ 0) → (((pg_si M 207 7 ((M.1 207 7) + 1)).1 207 8) ≤ 0) → P (some (.int v3)) (pg_si M 207 7 ((M.1 207 7) + 1)))
    (k1 : ((M.1 207 8) ≤ 0) → (¬ ((pg_si M 207 7 ((M.1 207 7) + 1)).1 207 8) ≤ 0) → P (some (.int 0)) (pg_si M 207 7 ((M.1 207 7) + 1)))
    (k2 : (¬ (M.1 207 8) ≤ 0) → (((pg_si M 207 7 ((M.1 207 7) + 0)).1 207 8) ≤ 0) → P (some (.int v3)) (pg_si M 207 7 ((M.1 207 7) + 0)))
    (k3 : (¬ (M.1 207 8) ≤ 0) → (¬ ((pg_si M 207 7 ((M.1 207 7) + 0)).1 207 8) ≤ 0) → P (some (.int 0)) (pg_si M 207 7 ((M.1 207 7) + 0))) :
    pg_At S Λ YX11_takeOne (d + 1) 34 [(0, .ref 207), (3, .int v3)] [] M P := by
  refine pg_aload_n (pc := 34) (i := 0) (j := 0) (x := 207) dX11_takeOne_34 rfl rfl ?_
  refine pg_dup (pc := 35) dX11_takeOne_35 rfl ?_
  refine gfX11_174 (pc := 36) rfl h0 dX11_takeOne_36 ?_
  refine pg_aload_n (pc := 39) (i := 0) (j := 0) (x := 207) dX11_takeOne_39 rfl rfl ?_
  refine gfX11_177 (pc := 40) rfl h0 dX11_takeOne_40 ?_
  refine pg_if_le (pc := 43) (tgt := 50) dX11_takeOne_43 (by decide) (fun c0 => ?_) (fun c0 => ?_)
  · skip
    refine pg_iconst (pc := 50) (v := 1) dX11_takeOne_50 (by decide) ?_
    refine pg_iadd (pc := 51) dX11_takeOne_51 ?_
    refine pfX11_174 (pc := 52) rfl h0 dX11_takeOne_52 ?_
    refine pg_aload_n (pc := 55) (i := 0) (j := 0) (x := 207) dX11_takeOne_55 rfl rfl ?_
    refine gfX11_177 (pc := 56) rfl h0 dX11_takeOne_56 ?_
    refine pg_if_le (pc := 59) (tgt := 66) dX11_takeOne_59 (by decide) (fun c1 => ?_) (fun c1 => ?_)
    · skip
      refine pg_iload_n (pc := 66) (i := 3) (j := 1) (x := v3) dX11_takeOne_66 rfl rfl ?_
      exact pg_iret (pc := 67) rfl dX11_takeOne_67 (k0 c0 c1)
    · skip
      refine pg_iconst (pc := 62) (v := 0) dX11_takeOne_62 (by decide) ?_
      refine pg_goto (pc := 63) (tgt := 67) dX11_takeOne_63 (by decide) ?_
      exact pg_iret (pc := 67) rfl dX11_takeOne_67 (k1 c0 c1)
  · skip
    refine pg_iconst (pc := 46) (v := 0) dX11_takeOne_46 (by decide) ?_
    refine pg_goto (pc := 47) (tgt := 51) dX11_takeOne_47 (by decide) ?_
    refine pg_iadd (pc := 51) dX11_takeOne_51 ?_
    refine pfX11_174 (pc := 52) rfl h0 dX11_takeOne_52 ?_
    refine pg_aload_n (pc := 55) (i := 0) (j := 0) (x := 207) dX11_takeOne_55 rfl rfl ?_
    refine gfX11_177 (pc := 56) rfl h0 dX11_takeOne_56 ?_
    refine pg_if_le (pc := 59) (tgt := 66) dX11_takeOne_59 (by decide) (fun c1 => ?_) (fun c1 => ?_)
    · skip
      refine pg_iload_n (pc := 66) (i := 3) (j := 1) (x := v3) dX11_takeOne_66 rfl rfl ?_
      exact pg_iret (pc := 67) rfl dX11_takeOne_67 (k2 c0 c1)
    · skip
      refine pg_iconst (pc := 62) (v := 0) dX11_takeOne_62 (by decide) ?_
      refine pg_goto (pc := 63) (tgt := 67) dX11_takeOne_63 (by decide) ?_
      exact pg_iret (pc := 67) rfl dX11_takeOne_67 (k3 c0 c1)
theorem oX11_takeOne {d : Nat} {v1 : Int32} {v2 : Int32} (h : pg_At S Λ YX11_takeOne d 0 [(0, .ref 207), (1, .int v1), (2, .int v2)] [] M P) : pg_Ev S Λ YX11_takeOne d [.ref 207, .int v1, .int v2] M P := pg_Ev.of (by decide) (by first | decide | exact Nat.le_of_ble_eq_true rfl) h
theorem sX11_isName_0  {Q0 : Int32 → pg_M → Prop}
    (h0 : pg_isX11 Λ)
    (k0 : (¬ (M.1 207 8) = 0) → P (some (.int 0)) M)
    (b0 : ((M.1 207 8) = 0) → vp_in (M.1 207 7) 1002)
    (k1 : ((M.1 207 8) = 0) → (¬ (M.1 209 (M.1 207 7).toNatClampNeg) = 1) → P (some (.int 0)) M)
    (e0 : ((M.1 207 8) = 0) → ((M.1 209 (M.1 207 7).toNatClampNeg) = 1) → pg_Ev S Λ YX11_wordHere d [.ref 207, .int 0, .int 23] M (fun r M' => ∃ x, r = some (.int x) ∧ Q0 x M'))
    (k2 : ((M.1 207 8) = 0) → ((M.1 209 (M.1 207 7).toNatClampNeg) = 1) → ∀ x1 M1, Q0 x1 M1 → (0 ≤ x1) → P (some (.int 0)) M1)
    (k3 : ((M.1 207 8) = 0) → ((M.1 209 (M.1 207 7).toNatClampNeg) = 1) → ∀ x1 M1, Q0 x1 M1 → (¬ 0 ≤ x1) → P (some (.int 1)) M1) :
    pg_At S Λ YX11_isName (d + 1) 0 [(0, .ref 207)] [] M P := by
  refine pg_aload_n (pc := 0) (i := 0) (j := 0) (x := 207) dX11_isName_0 rfl rfl ?_
  refine gfX11_177 (pc := 1) rfl h0 dX11_isName_1 ?_
  refine pg_if_ne (pc := 4) (tgt := 34) dX11_isName_4 (by decide) (fun c0 => ?_) (fun c0 => ?_)
  · skip
    refine pg_iconst (pc := 34) (v := 0) dX11_isName_34 (by decide) ?_
    exact pg_zret (pc := 35) rfl rfl dX11_isName_35 (k0 c0)
  · skip
    refine pg_aload_n (pc := 7) (i := 0) (j := 0) (x := 207) dX11_isName_7 rfl rfl ?_
    refine gfX11_24 (pc := 8) rfl h0 dX11_isName_8 ?_
    refine pg_aload_n (pc := 11) (i := 0) (j := 0) (x := 207) dX11_isName_11 rfl rfl ?_
    refine gfX11_174 (pc := 12) rfl h0 dX11_isName_12 ?_
    refine pg_iald (pc := 15) h0.2.2.1 (b0 c0) dX11_isName_15 ?_
    refine pg_iconst (pc := 16) (v := 1) dX11_isName_16 (by decide) ?_
    refine pg_icmp_ne (pc := 17) (tgt := 34) dX11_isName_17 (by decide) (fun c1 => ?_) (fun c1 => ?_)
    · skip
      refine pg_iconst (pc := 34) (v := 0) dX11_isName_34 (by decide) ?_
      exact pg_zret (pc := 35) rfl rfl dX11_isName_35 (k1 c0 c1)
    · skip
      refine pg_aload_n (pc := 20) (i := 0) (j := 0) (x := 207) dX11_isName_20 rfl rfl ?_
      refine pg_iconst (pc := 21) (v := 0) dX11_isName_21 (by decide) ?_
      refine pg_bipush (pc := 22) (v := 23) dX11_isName_22 (by decide) ?_
      refine pg_callV (pc := 24) (As := [.int 0, .int 23]) (st := []) okX11_wordHere lkX11_199 rfl h0.1 rfl (Nat.le_refl _) (Nat.le_of_ble_eq_true rfl) (e0 c0 c1) dX11_isName_24 (fun r1 M1 w1 => ?_)
      obtain ⟨x1, rfl, w1⟩ := w1
      refine pg_if_ge (pc := 27) (tgt := 34) dX11_isName_27 (by decide) (fun c2 => ?_) (fun c2 => ?_)
      · skip
        refine pg_iconst (pc := 34) (v := 0) dX11_isName_34 (by decide) ?_
        exact pg_zret (pc := 35) rfl rfl dX11_isName_35 (k2 c0 c1 x1 M1 w1 c2)
      · skip
        refine pg_iconst (pc := 30) (v := 1) dX11_isName_30 (by decide) ?_
        refine pg_goto (pc := 31) (tgt := 35) dX11_isName_31 (by decide) ?_
        exact pg_zret (pc := 35) rfl rfl dX11_isName_35 (k3 c0 c1 x1 M1 w1 c2)
theorem oX11_isName {d : Nat}  (h : pg_At S Λ YX11_isName d 0 [(0, .ref 207)] [] M P) : pg_Ev S Λ YX11_isName d [.ref 207] M P := pg_Ev.of (by decide) (by first | decide | exact Nat.le_of_ble_eq_true rfl) h
theorem sX11_find_0 {v1 : Int32} 
    (k0 : pg_At S Λ YX11_find d 4 [(0, .ref 207), (1, .int v1), (2, .int (-1)), (3, .int 0)] [] M P) :
    pg_At S Λ YX11_find d 0 [(0, .ref 207), (1, .int v1)] [] M P := by
  refine pg_iconst (pc := 0) (v := (-1)) dX11_find_0 (by decide) ?_
  refine pg_istore_n (pc := 1) (i := 2) (ls' := [(2, .int (-1)), (0, .ref 207), (1, .int v1)]) dX11_find_1 rfl (by decide) rfl ?_
  refine pg_iconst (pc := 2) (v := 0) dX11_find_2 (by decide) ?_
  refine pg_istore_n (pc := 3) (i := 3) (ls' := [(3, .int 0), (2, .int (-1)), (0, .ref 207), (1, .int v1)]) dX11_find_3 rfl (by decide) rfl ?_
  refine pg_drop (ks := [2, 3, 1, 0]) (ls' := [(0, .ref 207), (1, .int v1), (2, .int (-1)), (3, .int 0)]) rfl ?_
  exact k0
theorem sX11_find_4 {v1 : Int32} {v2 : Int32} {v3 : Int32} 
    (h0 : pg_isX11 Λ)
    (k0 : (v1 = 0) → pg_At S Λ YX11_find d 20 [(0, .ref 207), (1, .int v1), (2, .int v2), (3, .int v3)] [.int (M.1 207 16), .int v3] M P)
    (k1 : (¬ v1 = 0) → pg_At S Λ YX11_find d 20 [(0, .ref 207), (1, .int v1), (2, .int v2), (3, .int v3)] [.int (M.1 207 17), .int v3] M P) :
    pg_At S Λ YX11_find d 4 [(0, .ref 207), (1, .int v1), (2, .int v2), (3, .int v3)] [] M P := by
  refine pg_iload_n (pc := 4) (i := 3) (j := 3) (x := v3) dX11_find_4 rfl rfl ?_
  refine pg_iload_n (pc := 5) (i := 1) (j := 1) (x := v1) dX11_find_5 rfl rfl ?_
  refine pg_if_eq (pc := 6) (tgt := 16) dX11_find_6 (by decide) (fun c0 => ?_) (fun c0 => ?_)
  · skip
    refine pg_aload_n (pc := 16) (i := 0) (j := 0) (x := 207) dX11_find_16 rfl rfl ?_
    refine gfX11_205 (pc := 17) rfl h0 dX11_find_17 ?_
    exact k0 c0
  · skip
    refine pg_aload_n (pc := 9) (i := 0) (j := 0) (x := 207) dX11_find_9 rfl rfl ?_
    refine gfX11_202 (pc := 10) rfl h0 dX11_find_10 ?_
    refine pg_goto (pc := 13) (tgt := 20) dX11_find_13 (by decide) ?_
    exact k1 c0
theorem sX11_find_20 {v1 : Int32} {v2 : Int32} {v3 : Int32} {s0 : Int32} {s1 : Int32} 
    (h0 : pg_isX11 Λ)
    (k0 : (s0 ≤ s1) → P (some (.int v2)) M)
    (b0 : (¬ s0 ≤ s1) → (v1 = 0) → vp_in v3 6)
    (b1 : (¬ s0 ≤ s1) → (v1 = 0) → vp_in (M.1 207 7) 1002)
    (k1 : (¬ s0 ≤ s1) → (v1 = 0) → (¬ (lg_cmp (M.2.1 216 v3.toNatClampNeg) (M.2.1 211 (M.1 207 7).toNatClampNeg)) = 0) → pg_At S Λ YX11_find d 4 [(0, .ref 207), (1, .int v1), (2, .int v2), (3, .int (v3 + 1))] [] M P)
    (k2 : (¬ s0 ≤ s1) → (v1 = 0) → ((lg_cmp (M.2.1 216 v3.toNatClampNeg) (M.2.1 211 (M.1 207 7).toNatClampNeg)) = 0) → pg_At S Λ YX11_find d 4 [(0, .ref 207), (1, .int v1), (2, .int v3), (3, .int (v3 + 1))] [] M P)
    (b2 : (¬ s0 ≤ s1) → (¬ v1 = 0) → vp_in v3 6)
    (b3 : (¬ s0 ≤ s1) → (¬ v1 = 0) → vp_in (M.1 207 7) 1002)
    (k3 : (¬ s0 ≤ s1) → (¬ v1 = 0) → (¬ (lg_cmp (M.2.1 217 v3.toNatClampNeg) (M.2.1 211 (M.1 207 7).toNatClampNeg)) = 0) → pg_At S Λ YX11_find d 4 [(0, .ref 207), (1, .int v1), (2, .int v2), (3, .int (v3 + 1))] [] M P)
    (k4 : (¬ s0 ≤ s1) → (¬ v1 = 0) → ((lg_cmp (M.2.1 217 v3.toNatClampNeg) (M.2.1 211 (M.1 207 7).toNatClampNeg)) = 0) → pg_At S Λ YX11_find d 4 [(0, .ref 207), (1, .int v1), (2, .int v3), (3, .int (v3 + 1))] [] M P) :
    pg_At S Λ YX11_find d 20 [(0, .ref 207), (1, .int v1), (2, .int v2), (3, .int v3)] [.int s0, .int s1] M P := by
  refine pg_icmp_ge (pc := 20) (tgt := 67) dX11_find_20 (by decide) (fun c0 => ?_) (fun c0 => ?_)
  · skip
    refine pg_iload_n (pc := 67) (i := 2) (j := 2) (x := v2) dX11_find_67 rfl rfl ?_
    exact pg_iret (pc := 68) rfl dX11_find_68 (k0 c0)
  · skip
    refine pg_iload_n (pc := 23) (i := 1) (j := 1) (x := v1) dX11_find_23 rfl rfl ?_
    refine pg_if_eq (pc := 24) (tgt := 36) dX11_find_24 (by decide) (fun c1 => ?_) (fun c1 => ?_)
    · skip
      refine pg_aload_n (pc := 36) (i := 0) (j := 0) (x := 207) dX11_find_36 rfl rfl ?_
      refine gfX11_98 (pc := 37) rfl h0 dX11_find_37 ?_
      refine pg_iload_n (pc := 40) (i := 3) (j := 3) (x := v3) dX11_find_40 rfl rfl ?_
      refine pg_lald (pc := 41) h0.2.2.2.2.2.2.2.2.2.1 (b0 c0 c1) dX11_find_41 ?_
      refine pg_aload_n (pc := 42) (i := 0) (j := 0) (x := 207) dX11_find_42 rfl rfl ?_
      refine gfX11_30 (pc := 43) rfl h0 dX11_find_43 ?_
      refine pg_aload_n (pc := 46) (i := 0) (j := 0) (x := 207) dX11_find_46 rfl rfl ?_
      refine gfX11_174 (pc := 47) rfl h0 dX11_find_47 ?_
      refine pg_lald (pc := 50) h0.2.2.2.2.1 (b1 c0 c1) dX11_find_50 ?_
      refine pg_lcmp (pc := 51) dX11_find_51 ?_
      refine pg_if_ne (pc := 52) (tgt := 59) dX11_find_52 (by decide) (fun c2 => ?_) (fun c2 => ?_)
      · skip
        refine pg_iload_n (pc := 59) (i := 2) (j := 2) (x := v2) dX11_find_59 rfl rfl ?_
        refine pg_istore_n (pc := 60) (i := 2) (ls' := [(2, .int v2), (0, .ref 207), (1, .int v1), (3, .int v3)]) dX11_find_60 rfl (by decide) rfl ?_
        refine pg_iinc (pc := 61) (i := 3) (j := 3) (x := v3) (v := v3 + 1) (ls' := [(3, .int (v3 + 1)), (2, .int v2), (0, .ref 207), (1, .int v1)]) dX11_find_61 rfl rfl (by decide) rfl ?_
        refine pg_goto (pc := 64) (tgt := 4) dX11_find_64 (by decide) ?_
        refine pg_drop (ks := [2, 3, 1, 0]) (ls' := [(0, .ref 207), (1, .int v1), (2, .int v2), (3, .int (v3 + 1))]) rfl ?_
        exact k1 c0 c1 c2
      · skip
        refine pg_iload_n (pc := 55) (i := 3) (j := 3) (x := v3) dX11_find_55 rfl rfl ?_
        refine pg_goto (pc := 56) (tgt := 60) dX11_find_56 (by decide) ?_
        refine pg_istore_n (pc := 60) (i := 2) (ls' := [(2, .int v3), (0, .ref 207), (1, .int v1), (3, .int v3)]) dX11_find_60 rfl (by decide) rfl ?_
        refine pg_iinc (pc := 61) (i := 3) (j := 3) (x := v3) (v := v3 + 1) (ls' := [(3, .int (v3 + 1)), (2, .int v3), (0, .ref 207), (1, .int v1)]) dX11_find_61 rfl rfl (by decide) rfl ?_
        refine pg_goto (pc := 64) (tgt := 4) dX11_find_64 (by decide) ?_
        refine pg_drop (ks := [2, 3, 1, 0]) (ls' := [(0, .ref 207), (1, .int v1), (2, .int v3), (3, .int (v3 + 1))]) rfl ?_
        exact k2 c0 c1 c2
    · skip
      refine pg_aload_n (pc := 27) (i := 0) (j := 0) (x := 207) dX11_find_27 rfl rfl ?_
      refine gfX11_101 (pc := 28) rfl h0 dX11_find_28 ?_
      refine pg_iload_n (pc := 31) (i := 3) (j := 3) (x := v3) dX11_find_31 rfl rfl ?_
      refine pg_lald (pc := 32) h0.2.2.2.2.2.2.2.2.2.2.1 (b2 c0 c1) dX11_find_32 ?_
      refine pg_goto (pc := 33) (tgt := 42) dX11_find_33 (by decide) ?_
      refine pg_aload_n (pc := 42) (i := 0) (j := 0) (x := 207) dX11_find_42 rfl rfl ?_
      refine gfX11_30 (pc := 43) rfl h0 dX11_find_43 ?_
      refine pg_aload_n (pc := 46) (i := 0) (j := 0) (x := 207) dX11_find_46 rfl rfl ?_
      refine gfX11_174 (pc := 47) rfl h0 dX11_find_47 ?_
      refine pg_lald (pc := 50) h0.2.2.2.2.1 (b3 c0 c1) dX11_find_50 ?_
      refine pg_lcmp (pc := 51) dX11_find_51 ?_
      refine pg_if_ne (pc := 52) (tgt := 59) dX11_find_52 (by decide) (fun c2 => ?_) (fun c2 => ?_)
      · skip
        refine pg_iload_n (pc := 59) (i := 2) (j := 2) (x := v2) dX11_find_59 rfl rfl ?_
        refine pg_istore_n (pc := 60) (i := 2) (ls' := [(2, .int v2), (0, .ref 207), (1, .int v1), (3, .int v3)]) dX11_find_60 rfl (by decide) rfl ?_
        refine pg_iinc (pc := 61) (i := 3) (j := 3) (x := v3) (v := v3 + 1) (ls' := [(3, .int (v3 + 1)), (2, .int v2), (0, .ref 207), (1, .int v1)]) dX11_find_61 rfl rfl (by decide) rfl ?_
        refine pg_goto (pc := 64) (tgt := 4) dX11_find_64 (by decide) ?_
        refine pg_drop (ks := [2, 3, 1, 0]) (ls' := [(0, .ref 207), (1, .int v1), (2, .int v2), (3, .int (v3 + 1))]) rfl ?_
        exact k3 c0 c1 c2
      · skip
        refine pg_iload_n (pc := 55) (i := 3) (j := 3) (x := v3) dX11_find_55 rfl rfl ?_
        refine pg_goto (pc := 56) (tgt := 60) dX11_find_56 (by decide) ?_
        refine pg_istore_n (pc := 60) (i := 2) (ls' := [(2, .int v3), (0, .ref 207), (1, .int v1), (3, .int v3)]) dX11_find_60 rfl (by decide) rfl ?_
        refine pg_iinc (pc := 61) (i := 3) (j := 3) (x := v3) (v := v3 + 1) (ls' := [(3, .int (v3 + 1)), (2, .int v3), (0, .ref 207), (1, .int v1)]) dX11_find_61 rfl rfl (by decide) rfl ?_
        refine pg_goto (pc := 64) (tgt := 4) dX11_find_64 (by decide) ?_
        refine pg_drop (ks := [2, 3, 1, 0]) (ls' := [(0, .ref 207), (1, .int v1), (2, .int v3), (3, .int (v3 + 1))]) rfl ?_
        exact k4 c0 c1 c2
theorem oX11_find {d : Nat} {v1 : Int32} (h : pg_At S Λ YX11_find d 0 [(0, .ref 207), (1, .int v1)] [] M P) : pg_Ev S Λ YX11_find d [.ref 207, .int v1] M P := pg_Ev.of (by decide) (by first | decide | exact Nat.le_of_ble_eq_true rfl) h
theorem sX11_toldHere_0 {v1 : Int32} {Q0 : Int32 → pg_M → Prop} {Q1 : pg_M → Prop}
    (h0 : pg_isX11 Λ)
    (k0 : (¬ (M.1 207 8) = 0) → pg_At S Λ YX11_toldHere (d + 1) 19 [(0, .ref 207), (1, .int v1)] [] M P)
    (e0 : ((M.1 207 8) = 0) → pg_Ev S Λ YX11_isName d [.ref 207] M (fun r M' => ∃ x, r = some (.int x) ∧ Q0 x M'))
    (k1 : ((M.1 207 8) = 0) → ∀ x1 M1, Q0 x1 M1 → (¬ x1 = 0) → pg_At S Λ YX11_toldHere (d + 1) 19 [(0, .ref 207), (1, .int v1)] [] M1 P)
    (e1 : ((M.1 207 8) = 0) → ∀ x1 M1, Q0 x1 M1 → (x1 = 0) → pg_Ev S Λ YX11_wrong d [.ref 207, .int 1] M1 (fun r M' => r = none ∧ Q1 M'))
    (k2 : ((M.1 207 8) = 0) → ∀ x1 M1, Q0 x1 M1 → (x1 = 0) → ∀ M2, Q1 M2 → pg_At S Λ YX11_toldHere (d + 1) 19 [(0, .ref 207), (1, .int v1)] [] M2 P) :
    pg_At S Λ YX11_toldHere (d + 1) 0 [(0, .ref 207), (1, .int v1)] [] M P := by
  refine pg_aload_n (pc := 0) (i := 0) (j := 0) (x := 207) dX11_toldHere_0 rfl rfl ?_
  refine gfX11_177 (pc := 1) rfl h0 dX11_toldHere_1 ?_
  refine pg_if_ne (pc := 4) (tgt := 19) dX11_toldHere_4 (by decide) (fun c0 => ?_) (fun c0 => ?_)
  · skip
    exact k0 c0
  · skip
    refine pg_aload_n (pc := 7) (i := 0) (j := 0) (x := 207) dX11_toldHere_7 rfl rfl ?_
    refine pg_callV (pc := 8) (As := []) (st := []) okX11_isName lkX11_208 rfl h0.1 rfl (Nat.le_refl _) (Nat.le_of_ble_eq_true rfl) (e0 c0) dX11_toldHere_8 (fun r1 M1 w1 => ?_)
    obtain ⟨x1, rfl, w1⟩ := w1
    refine pg_if_ne (pc := 11) (tgt := 19) dX11_toldHere_11 (by decide) (fun c1 => ?_) (fun c1 => ?_)
    · skip
      exact k1 c0 x1 M1 w1 c1
    · skip
      refine pg_aload_n (pc := 14) (i := 0) (j := 0) (x := 207) dX11_toldHere_14 rfl rfl ?_
      refine pg_iconst (pc := 15) (v := 1) dX11_toldHere_15 (by decide) ?_
      refine pg_callV (pc := 16) (As := [.int 1]) (st := []) okX11_wrong lkX11_183 rfl h0.1 rfl (Nat.le_refl _) (Nat.le_of_ble_eq_true rfl) (e1 c0 x1 M1 w1 c1) dX11_toldHere_16 (fun r2 M2 w2 => ?_)
      obtain ⟨rfl, w2⟩ := w2
      exact k2 c0 x1 M1 w1 c1 M2 w2
theorem sX11_toldHere_19 {v1 : Int32} {Q0 : Int32 → pg_M → Prop}
    (h0 : pg_isX11 Λ)
    (e0 : ((M.1 207 8) ≤ 0) → pg_Ev S Λ YX11_find d [.ref 207, .int v1] M (fun r M' => ∃ x, r = some (.int x) ∧ Q0 x M'))
    (k0 : ((M.1 207 8) ≤ 0) → ∀ x1 M1, Q0 x1 M1 → pg_At S Λ YX11_toldHere (d + 1) 35 [(0, .ref 207)] [.int x1] M1 P)
    (k1 : (¬ (M.1 207 8) ≤ 0) → pg_At S Λ YX11_toldHere (d + 1) 35 [(0, .ref 207)] [.int (-1)] M P) :
    pg_At S Λ YX11_toldHere (d + 1) 19 [(0, .ref 207), (1, .int v1)] [] M P := by
  refine pg_aload_n (pc := 19) (i := 0) (j := 0) (x := 207) dX11_toldHere_19 rfl rfl ?_
  refine gfX11_177 (pc := 20) rfl h0 dX11_toldHere_20 ?_
  refine pg_if_le (pc := 23) (tgt := 30) dX11_toldHere_23 (by decide) (fun c0 => ?_) (fun c0 => ?_)
  · skip
    refine pg_aload_n (pc := 30) (i := 0) (j := 0) (x := 207) dX11_toldHere_30 rfl rfl ?_
    refine pg_iload_n (pc := 31) (i := 1) (j := 1) (x := v1) dX11_toldHere_31 rfl rfl ?_
    refine pg_callV (pc := 32) (As := [.int v1]) (st := []) okX11_find lkX11_212 rfl h0.1 rfl (Nat.le_refl _) (Nat.le_of_ble_eq_true rfl) (e0 c0) dX11_toldHere_32 (fun r1 M1 w1 => ?_)
    obtain ⟨x1, rfl, w1⟩ := w1
    refine pg_drop (ks := [0]) (ls' := [(0, .ref 207)]) rfl ?_
    exact k0 c0 x1 M1 w1
  · skip
    refine pg_iconst (pc := 26) (v := (-1)) dX11_toldHere_26 (by decide) ?_
    refine pg_goto (pc := 27) (tgt := 35) dX11_toldHere_27 (by decide) ?_
    refine pg_drop (ks := [0]) (ls' := [(0, .ref 207)]) rfl ?_
    exact k1 c0
theorem sX11_toldHere_35 {s0 : Int32} {Q0 : pg_M → Prop}
    (h0 : pg_isX11 Λ)
    (k0 : (¬ (M.1 207 8) = 0) → ((M.1 207 8) ≤ 0) → P (some (.int s0)) M)
    (k1 : (¬ (M.1 207 8) = 0) → (¬ (M.1 207 8) ≤ 0) → P (some (.int 0)) M)
    (k2 : ((M.1 207 8) = 0) → (0 ≤ s0) → ((M.1 207 8) ≤ 0) → P (some (.int s0)) M)
    (k3 : ((M.1 207 8) = 0) → (0 ≤ s0) → (¬ (M.1 207 8) ≤ 0) → P (some (.int 0)) M)
    (e0 : ((M.1 207 8) = 0) → (¬ 0 ≤ s0) → pg_Ev S Λ YX11_wrong d [.ref 207, .int 2] M (fun r M' => r = none ∧ Q0 M'))
    (k4 : ((M.1 207 8) = 0) → (¬ 0 ≤ s0) → ∀ M1, Q0 M1 → ((M1.1 207 8) ≤ 0) → P (some (.int s0)) M1)
    (k5 : ((M.1 207 8) = 0) → (¬ 0 ≤ s0) → ∀ M1, Q0 M1 → (¬ (M1.1 207 8) ≤ 0) → P (some (.int 0)) M1) :
    pg_At S Λ YX11_toldHere (d + 1) 35 [(0, .ref 207)] [.int s0] M P := by
  refine pg_istore_n (pc := 35) (i := 2) (ls' := [(2, .int s0), (0, .ref 207)]) dX11_toldHere_35 rfl (by decide) rfl ?_
  refine pg_aload_n (pc := 36) (i := 0) (j := 1) (x := 207) dX11_toldHere_36 rfl rfl ?_
  refine gfX11_177 (pc := 37) rfl h0 dX11_toldHere_37 ?_
  refine pg_if_ne (pc := 40) (tgt := 52) dX11_toldHere_40 (by decide) (fun c0 => ?_) (fun c0 => ?_)
  · skip
    refine pg_aload_n (pc := 52) (i := 0) (j := 1) (x := 207) dX11_toldHere_52 rfl rfl ?_
    refine gfX11_177 (pc := 53) rfl h0 dX11_toldHere_53 ?_
    refine pg_if_le (pc := 56) (tgt := 63) dX11_toldHere_56 (by decide) (fun c1 => ?_) (fun c1 => ?_)
    · skip
      refine pg_iload_n (pc := 63) (i := 2) (j := 0) (x := s0) dX11_toldHere_63 rfl rfl ?_
      exact pg_iret (pc := 64) rfl dX11_toldHere_64 (k0 c0 c1)
    · skip
      refine pg_iconst (pc := 59) (v := 0) dX11_toldHere_59 (by decide) ?_
      refine pg_goto (pc := 60) (tgt := 64) dX11_toldHere_60 (by decide) ?_
      exact pg_iret (pc := 64) rfl dX11_toldHere_64 (k1 c0 c1)
  · skip
    refine pg_iload_n (pc := 43) (i := 2) (j := 0) (x := s0) dX11_toldHere_43 rfl rfl ?_
    refine pg_if_ge (pc := 44) (tgt := 52) dX11_toldHere_44 (by decide) (fun c1 => ?_) (fun c1 => ?_)
    · skip
      refine pg_aload_n (pc := 52) (i := 0) (j := 1) (x := 207) dX11_toldHere_52 rfl rfl ?_
      refine gfX11_177 (pc := 53) rfl h0 dX11_toldHere_53 ?_
      refine pg_if_le (pc := 56) (tgt := 63) dX11_toldHere_56 (by decide) (fun c2 => ?_) (fun c2 => ?_)
      · skip
        refine pg_iload_n (pc := 63) (i := 2) (j := 0) (x := s0) dX11_toldHere_63 rfl rfl ?_
        exact pg_iret (pc := 64) rfl dX11_toldHere_64 (k2 c0 c1 c2)
      · skip
        refine pg_iconst (pc := 59) (v := 0) dX11_toldHere_59 (by decide) ?_
        refine pg_goto (pc := 60) (tgt := 64) dX11_toldHere_60 (by decide) ?_
        exact pg_iret (pc := 64) rfl dX11_toldHere_64 (k3 c0 c1 c2)
    · skip
      refine pg_aload_n (pc := 47) (i := 0) (j := 1) (x := 207) dX11_toldHere_47 rfl rfl ?_
      refine pg_iconst (pc := 48) (v := 2) dX11_toldHere_48 (by decide) ?_
      refine pg_callV (pc := 49) (As := [.int 2]) (st := []) okX11_wrong lkX11_183 rfl h0.1 rfl (Nat.le_refl _) (Nat.le_of_ble_eq_true rfl) (e0 c0 c1) dX11_toldHere_49 (fun r1 M1 w1 => ?_)
      obtain ⟨rfl, w1⟩ := w1
      refine pg_aload_n (pc := 52) (i := 0) (j := 1) (x := 207) dX11_toldHere_52 rfl rfl ?_
      refine gfX11_177 (pc := 53) rfl h0 dX11_toldHere_53 ?_
      refine pg_if_le (pc := 56) (tgt := 63) dX11_toldHere_56 (by decide) (fun c2 => ?_) (fun c2 => ?_)
      · skip
        refine pg_iload_n (pc := 63) (i := 2) (j := 0) (x := s0) dX11_toldHere_63 rfl rfl ?_
        exact pg_iret (pc := 64) rfl dX11_toldHere_64 (k4 c0 c1 M1 w1 c2)
      · skip
        refine pg_iconst (pc := 59) (v := 0) dX11_toldHere_59 (by decide) ?_
        refine pg_goto (pc := 60) (tgt := 64) dX11_toldHere_60 (by decide) ?_
        exact pg_iret (pc := 64) rfl dX11_toldHere_64 (k5 c0 c1 M1 w1 c2)
theorem oX11_toldHere {d : Nat} {v1 : Int32} (h : pg_At S Λ YX11_toldHere d 0 [(0, .ref 207), (1, .int v1)] [] M P) : pg_Ev S Λ YX11_toldHere d [.ref 207, .int v1] M P := pg_Ev.of (by decide) (by first | decide | exact Nat.le_of_ble_eq_true rfl) h
theorem sX11_takeTold_0 {v1 : Int32} {Q0 : Int32 → pg_M → Prop}
    (h0 : pg_isX11 Λ)
    (e0 : pg_Ev S Λ YX11_toldHere d [.ref 207, .int v1] M (fun r M' => ∃ x, r = some (.int x) ∧ Q0 x M'))
    (k0 : ∀ x1 M1, Q0 x1 M1 → ((M1.1 207 8) ≤ 0) → P (some (.int x1)) (pg_si M1 207 7 ((M1.1 207 7) + 1)))
    (k1 : ∀ x1 M1, Q0 x1 M1 → (¬ (M1.1 207 8) ≤ 0) → P (some (.int x1)) (pg_si M1 207 7 ((M1.1 207 7) + 0))) :
    pg_At S Λ YX11_takeTold (d + 1) 0 [(0, .ref 207), (1, .int v1)] [] M P := by
  refine pg_aload_n (pc := 0) (i := 0) (j := 0) (x := 207) dX11_takeTold_0 rfl rfl ?_
  refine pg_iload_n (pc := 1) (i := 1) (j := 1) (x := v1) dX11_takeTold_1 rfl rfl ?_
  refine pg_callV (pc := 2) (As := [.int v1]) (st := []) okX11_toldHere lkX11_216 rfl h0.1 rfl (Nat.le_refl _) (Nat.le_of_ble_eq_true rfl) e0 dX11_takeTold_2 (fun r1 M1 w1 => ?_)
  obtain ⟨x1, rfl, w1⟩ := w1
  refine pg_istore_n (pc := 5) (i := 2) (ls' := [(2, .int x1), (0, .ref 207), (1, .int v1)]) dX11_takeTold_5 rfl (by decide) rfl ?_
  refine pg_aload_n (pc := 6) (i := 0) (j := 1) (x := 207) dX11_takeTold_6 rfl rfl ?_
  refine pg_dup (pc := 7) dX11_takeTold_7 rfl ?_
  refine gfX11_174 (pc := 8) rfl h0 dX11_takeTold_8 ?_
  refine pg_aload_n (pc := 11) (i := 0) (j := 1) (x := 207) dX11_takeTold_11 rfl rfl ?_
  refine gfX11_177 (pc := 12) rfl h0 dX11_takeTold_12 ?_
  refine pg_if_le (pc := 15) (tgt := 22) dX11_takeTold_15 (by decide) (fun c0 => ?_) (fun c0 => ?_)
  · skip
    refine pg_iconst (pc := 22) (v := 1) dX11_takeTold_22 (by decide) ?_
    refine pg_iadd (pc := 23) dX11_takeTold_23 ?_
    refine pfX11_174 (pc := 24) rfl h0 dX11_takeTold_24 ?_
    refine pg_iload_n (pc := 27) (i := 2) (j := 0) (x := x1) dX11_takeTold_27 rfl rfl ?_
    exact pg_iret (pc := 28) rfl dX11_takeTold_28 (k0 x1 M1 w1 c0)
  · skip
    refine pg_iconst (pc := 18) (v := 0) dX11_takeTold_18 (by decide) ?_
    refine pg_goto (pc := 19) (tgt := 23) dX11_takeTold_19 (by decide) ?_
    refine pg_iadd (pc := 23) dX11_takeTold_23 ?_
    refine pfX11_174 (pc := 24) rfl h0 dX11_takeTold_24 ?_
    refine pg_iload_n (pc := 27) (i := 2) (j := 0) (x := x1) dX11_takeTold_27 rfl rfl ?_
    exact pg_iret (pc := 28) rfl dX11_takeTold_28 (k1 x1 M1 w1 c0)
theorem oX11_takeTold {d : Nat} {v1 : Int32} (h : pg_At S Λ YX11_takeTold d 0 [(0, .ref 207), (1, .int v1)] [] M P) : pg_Ev S Λ YX11_takeTold d [.ref 207, .int v1] M P := pg_Ev.of (by decide) (by first | decide | exact Nat.le_of_ble_eq_true rfl) h
theorem sX11_line_0  {Q0 : pg_M → Prop} {Q1 : pg_M → Prop}
    (h0 : pg_isX11 Λ)
    (e0 : pg_Ev S Λ YX11_cutAll d [.ref 207] (pg_si M 207 0 0) (fun r M' => r = none ∧ Q0 M'))
    (e1 : ∀ M1, Q0 M1 → pg_Ev S Λ YX11_standsAsAlways d [.ref 207, .int 100] (pg_si (pg_si (pg_si M1 207 13 0) 207 17 0) 207 18 0) (fun r M' => r = none ∧ Q1 M'))
    (k0 : ∀ M1, Q0 M1 → ∀ M2, Q1 M2 → pg_At S Λ YX11_line (d + 1) 30 [(0, .ref 207)] [] M2 P) :
    pg_At S Λ YX11_line (d + 1) 0 [(0, .ref 207)] [] M P := by
  refine pg_aload_n (pc := 0) (i := 0) (j := 0) (x := 207) dX11_line_0 rfl rfl ?_
  refine pg_iconst (pc := 1) (v := 0) dX11_line_1 (by decide) ?_
  refine pfX11_1 (pc := 2) rfl h0 dX11_line_2 ?_
  refine pg_aload_n (pc := 5) (i := 0) (j := 0) (x := 207) dX11_line_5 rfl rfl ?_
  refine pg_callV (pc := 6) (As := []) (st := []) okX11_cutAll lkX11_219 rfl h0.1 rfl (Nat.le_refl _) (Nat.le_of_ble_eq_true rfl) e0 dX11_line_6 (fun r1 M1 w1 => ?_)
  obtain ⟨rfl, w1⟩ := w1
  refine pg_aload_n (pc := 9) (i := 0) (j := 0) (x := 207) dX11_line_9 rfl rfl ?_
  refine pg_iconst (pc := 10) (v := 0) dX11_line_10 (by decide) ?_
  refine pfX11_222 (pc := 11) rfl h0 dX11_line_11 ?_
  refine pg_aload_n (pc := 14) (i := 0) (j := 0) (x := 207) dX11_line_14 rfl rfl ?_
  refine pg_iconst (pc := 15) (v := 0) dX11_line_15 (by decide) ?_
  refine pfX11_202 (pc := 16) rfl h0 dX11_line_16 ?_
  refine pg_aload_n (pc := 19) (i := 0) (j := 0) (x := 207) dX11_line_19 rfl rfl ?_
  refine pg_iconst (pc := 20) (v := 0) dX11_line_20 (by decide) ?_
  refine pfX11_225 (pc := 21) rfl h0 dX11_line_21 ?_
  refine pg_aload_n (pc := 24) (i := 0) (j := 0) (x := 207) dX11_line_24 rfl rfl ?_
  refine pg_bipush (pc := 25) (v := 100) dX11_line_25 (by decide) ?_
  refine pg_callV (pc := 27) (As := [.int 100]) (st := []) okX11_standsAsAlways lkX11_144 rfl h0.1 rfl (Nat.le_refl _) (Nat.le_of_ble_eq_true rfl) (e1 M1 w1) dX11_line_27 (fun r2 M2 w2 => ?_)
  obtain ⟨rfl, w2⟩ := w2
  exact k0 M1 w1 M2 w2
theorem sX11_line_30  {Q0 : Int32 → pg_M → Prop} {Q1 : Int32 → pg_M → Prop} {Q2 : pg_M → Prop} {Q3 : pg_M → Prop} {Q4 : pg_M → Prop} {Q5 : pg_M → Prop} {Q6 : pg_M → Prop} {Q7 : pg_M → Prop}
    (h0 : pg_isX11 Λ)
    (k0 : (¬ (M.1 207 8) = 0) → ((M.1 207 8) ≤ 0) → pg_At S Λ YX11_line (d + 1) 107 [(0, .ref 207), (1, .int 0)] [] M P)
    (k1 : (¬ (M.1 207 8) = 0) → (¬ (M.1 207 8) ≤ 0) → P (some (.int (M.1 207 8))) M)
    (b0 : ((M.1 207 8) = 0) → vp_in (M.1 207 7) 1002)
    (k2 : ((M.1 207 8) = 0) → ((M.1 209 (M.1 207 7).toNatClampNeg) = 0) → ((M.1 207 8) ≤ 0) → pg_At S Λ YX11_line (d + 1) 107 [(0, .ref 207), (1, .int 0)] [] M P)
    (k3 : ((M.1 207 8) = 0) → ((M.1 209 (M.1 207 7).toNatClampNeg) = 0) → (¬ (M.1 207 8) ≤ 0) → P (some (.int (M.1 207 8))) M)
    (e0 : ((M.1 207 8) = 0) → (¬ (M.1 209 (M.1 207 7).toNatClampNeg) = 0) → pg_Ev S Λ YX11_isWord d [.ref 207, .int 0] M (fun r M' => ∃ x, r = some (.int x) ∧ Q0 x M'))
    (e1 : ((M.1 207 8) = 0) → (¬ (M.1 209 (M.1 207 7).toNatClampNeg) = 0) → ∀ x1 M1, Q0 x1 M1 → (x1 = 0) → pg_Ev S Λ YX11_isWord d [.ref 207, .int 8] M1 (fun r M' => ∃ x, r = some (.int x) ∧ Q1 x M'))
    (e2 : ((M.1 207 8) = 0) → (¬ (M.1 209 (M.1 207 7).toNatClampNeg) = 0) → ∀ x1 M1, Q0 x1 M1 → (x1 = 0) → ∀ x2 M2, Q1 x2 M2 → (x2 = 0) → pg_Ev S Λ YX11_readOnce d [.ref 207] M2 (fun r M' => r = none ∧ Q2 M'))
    (e3 : ((M.1 207 8) = 0) → (¬ (M.1 209 (M.1 207 7).toNatClampNeg) = 0) → ∀ x1 M1, Q0 x1 M1 → (x1 = 0) → ∀ x2 M2, Q1 x2 M2 → (x2 = 0) → ∀ M3, Q2 M3 → pg_Ev S Λ YX11_takeSign d [.ref 207, .int 59] M3 (fun r M' => r = none ∧ Q3 M'))
    (k4 : ((M.1 207 8) = 0) → (¬ (M.1 209 (M.1 207 7).toNatClampNeg) = 0) → ∀ x1 M1, Q0 x1 M1 → (x1 = 0) → ∀ x2 M2, Q1 x2 M2 → (x2 = 0) → ∀ M3, Q2 M3 → ∀ M4, Q3 M4 → pg_At S Λ YX11_line (d + 1) 30 [(0, .ref 207)] [] M4 P)
    (e4 : ((M.1 207 8) = 0) → (¬ (M.1 209 (M.1 207 7).toNatClampNeg) = 0) → ∀ x1 M1, Q0 x1 M1 → (x1 = 0) → ∀ x2 M2, Q1 x2 M2 → (¬ x2 = 0) → pg_Ev S Λ YX11_readClash d [.ref 207] M2 (fun r M' => r = none ∧ Q4 M'))
    (e5 : ((M.1 207 8) = 0) → (¬ (M.1 209 (M.1 207 7).toNatClampNeg) = 0) → ∀ x1 M1, Q0 x1 M1 → (x1 = 0) → ∀ x2 M2, Q1 x2 M2 → (¬ x2 = 0) → ∀ M5, Q4 M5 → pg_Ev S Λ YX11_takeSign d [.ref 207, .int 59] M5 (fun r M' => r = none ∧ Q5 M'))
    (k5 : ((M.1 207 8) = 0) → (¬ (M.1 209 (M.1 207 7).toNatClampNeg) = 0) → ∀ x1 M1, Q0 x1 M1 → (x1 = 0) → ∀ x2 M2, Q1 x2 M2 → (¬ x2 = 0) → ∀ M5, Q4 M5 → ∀ M6, Q5 M6 → pg_At S Λ YX11_line (d + 1) 30 [(0, .ref 207)] [] M6 P)
    (e6 : ((M.1 207 8) = 0) → (¬ (M.1 209 (M.1 207 7).toNatClampNeg) = 0) → ∀ x1 M1, Q0 x1 M1 → (¬ x1 = 0) → pg_Ev S Λ YX11_readCloth d [.ref 207] M1 (fun r M' => r = none ∧ Q6 M'))
    (e7 : ((M.1 207 8) = 0) → (¬ (M.1 209 (M.1 207 7).toNatClampNeg) = 0) → ∀ x1 M1, Q0 x1 M1 → (¬ x1 = 0) → ∀ M7, Q6 M7 → pg_Ev S Λ YX11_takeSign d [.ref 207, .int 59] M7 (fun r M' => r = none ∧ Q7 M'))
    (k6 : ((M.1 207 8) = 0) → (¬ (M.1 209 (M.1 207 7).toNatClampNeg) = 0) → ∀ x1 M1, Q0 x1 M1 → (¬ x1 = 0) → ∀ M7, Q6 M7 → ∀ M8, Q7 M8 → pg_At S Λ YX11_line (d + 1) 30 [(0, .ref 207)] [] M8 P) :
    pg_At S Λ YX11_line (d + 1) 30 [(0, .ref 207)] [] M P := by
  refine pg_aload_n (pc := 30) (i := 0) (j := 0) (x := 207) dX11_line_30 rfl rfl ?_
  refine gfX11_177 (pc := 31) rfl h0 dX11_line_31 ?_
  refine pg_if_ne (pc := 34) (tgt := 93) dX11_line_34 (by decide) (fun c0 => ?_) (fun c0 => ?_)
  · skip
    refine pg_aload_n (pc := 93) (i := 0) (j := 0) (x := 207) dX11_line_93 rfl rfl ?_
    refine gfX11_177 (pc := 94) rfl h0 dX11_line_94 ?_
    refine pg_if_le (pc := 97) (tgt := 105) dX11_line_97 (by decide) (fun c1 => ?_) (fun c1 => ?_)
    · skip
      refine pg_iconst (pc := 105) (v := 0) dX11_line_105 (by decide) ?_
      refine pg_istore_n (pc := 106) (i := 1) (ls' := [(1, .int 0), (0, .ref 207)]) dX11_line_106 rfl (by decide) rfl ?_
      refine pg_drop (ks := [1, 0]) (ls' := [(0, .ref 207), (1, .int 0)]) rfl ?_
      exact k0 c0 c1
    · skip
      refine pg_aload_n (pc := 100) (i := 0) (j := 0) (x := 207) dX11_line_100 rfl rfl ?_
      refine gfX11_177 (pc := 101) rfl h0 dX11_line_101 ?_
      exact pg_iret (pc := 104) rfl dX11_line_104 (k1 c0 c1)
  · skip
    refine pg_aload_n (pc := 37) (i := 0) (j := 0) (x := 207) dX11_line_37 rfl rfl ?_
    refine gfX11_24 (pc := 38) rfl h0 dX11_line_38 ?_
    refine pg_aload_n (pc := 41) (i := 0) (j := 0) (x := 207) dX11_line_41 rfl rfl ?_
    refine gfX11_174 (pc := 42) rfl h0 dX11_line_42 ?_
    refine pg_iald (pc := 45) h0.2.2.1 (b0 c0) dX11_line_45 ?_
    refine pg_if_eq (pc := 46) (tgt := 93) dX11_line_46 (by decide) (fun c1 => ?_) (fun c1 => ?_)
    · skip
      refine pg_aload_n (pc := 93) (i := 0) (j := 0) (x := 207) dX11_line_93 rfl rfl ?_
      refine gfX11_177 (pc := 94) rfl h0 dX11_line_94 ?_
      refine pg_if_le (pc := 97) (tgt := 105) dX11_line_97 (by decide) (fun c2 => ?_) (fun c2 => ?_)
      · skip
        refine pg_iconst (pc := 105) (v := 0) dX11_line_105 (by decide) ?_
        refine pg_istore_n (pc := 106) (i := 1) (ls' := [(1, .int 0), (0, .ref 207)]) dX11_line_106 rfl (by decide) rfl ?_
        refine pg_drop (ks := [1, 0]) (ls' := [(0, .ref 207), (1, .int 0)]) rfl ?_
        exact k2 c0 c1 c2
      · skip
        refine pg_aload_n (pc := 100) (i := 0) (j := 0) (x := 207) dX11_line_100 rfl rfl ?_
        refine gfX11_177 (pc := 101) rfl h0 dX11_line_101 ?_
        exact pg_iret (pc := 104) rfl dX11_line_104 (k3 c0 c1 c2)
    · skip
      refine pg_aload_n (pc := 49) (i := 0) (j := 0) (x := 207) dX11_line_49 rfl rfl ?_
      refine pg_iconst (pc := 50) (v := 0) dX11_line_50 (by decide) ?_
      refine pg_callV (pc := 51) (As := [.int 0]) (st := []) okX11_isWord lkX11_186 rfl h0.1 rfl (Nat.le_refl _) (Nat.le_of_ble_eq_true rfl) (e0 c0 c1) dX11_line_51 (fun r1 M1 w1 => ?_)
      obtain ⟨x1, rfl, w1⟩ := w1
      refine pg_if_eq (pc := 54) (tgt := 64) dX11_line_54 (by decide) (fun c2 => ?_) (fun c2 => ?_)
      · skip
        refine pg_aload_n (pc := 64) (i := 0) (j := 0) (x := 207) dX11_line_64 rfl rfl ?_
        refine pg_bipush (pc := 65) (v := 8) dX11_line_65 (by decide) ?_
        refine pg_callV (pc := 67) (As := [.int 8]) (st := []) okX11_isWord lkX11_186 rfl h0.1 rfl (Nat.le_refl _) (Nat.le_of_ble_eq_true rfl) (e1 c0 c1 x1 M1 w1 c2) dX11_line_67 (fun r2 M2 w2 => ?_)
        obtain ⟨x2, rfl, w2⟩ := w2
        refine pg_if_eq (pc := 70) (tgt := 80) dX11_line_70 (by decide) (fun c3 => ?_) (fun c3 => ?_)
        · skip
          refine pg_aload_n (pc := 80) (i := 0) (j := 0) (x := 207) dX11_line_80 rfl rfl ?_
          refine pg_callV (pc := 81) (As := []) (st := []) okX11_readOnce lkX11_234 rfl h0.1 rfl (Nat.le_refl _) (Nat.le_of_ble_eq_true rfl) (e2 c0 c1 x1 M1 w1 c2 x2 M2 w2 c3) dX11_line_81 (fun r3 M3 w3 => ?_)
          obtain ⟨rfl, w3⟩ := w3
          refine pg_aload_n (pc := 84) (i := 0) (j := 0) (x := 207) dX11_line_84 rfl rfl ?_
          refine pg_bipush (pc := 85) (v := 59) dX11_line_85 (by decide) ?_
          refine pg_callV (pc := 87) (As := [.int 59]) (st := []) okX11_takeSign lkX11_237 rfl h0.1 rfl (Nat.le_refl _) (Nat.le_of_ble_eq_true rfl) (e3 c0 c1 x1 M1 w1 c2 x2 M2 w2 c3 M3 w3) dX11_line_87 (fun r4 M4 w4 => ?_)
          obtain ⟨rfl, w4⟩ := w4
          refine pg_goto (pc := 90) (tgt := 30) dX11_line_90 (by decide) ?_
          exact k4 c0 c1 x1 M1 w1 c2 x2 M2 w2 c3 M3 w3 M4 w4
        · skip
          refine pg_aload_n (pc := 73) (i := 0) (j := 0) (x := 207) dX11_line_73 rfl rfl ?_
          refine pg_callV (pc := 74) (As := []) (st := []) okX11_readClash lkX11_231 rfl h0.1 rfl (Nat.le_refl _) (Nat.le_of_ble_eq_true rfl) (e4 c0 c1 x1 M1 w1 c2 x2 M2 w2 c3) dX11_line_74 (fun r5 M5 w5 => ?_)
          obtain ⟨rfl, w5⟩ := w5
          refine pg_goto (pc := 77) (tgt := 84) dX11_line_77 (by decide) ?_
          refine pg_aload_n (pc := 84) (i := 0) (j := 0) (x := 207) dX11_line_84 rfl rfl ?_
          refine pg_bipush (pc := 85) (v := 59) dX11_line_85 (by decide) ?_
          refine pg_callV (pc := 87) (As := [.int 59]) (st := []) okX11_takeSign lkX11_237 rfl h0.1 rfl (Nat.le_refl _) (Nat.le_of_ble_eq_true rfl) (e5 c0 c1 x1 M1 w1 c2 x2 M2 w2 c3 M5 w5) dX11_line_87 (fun r6 M6 w6 => ?_)
          obtain ⟨rfl, w6⟩ := w6
          refine pg_goto (pc := 90) (tgt := 30) dX11_line_90 (by decide) ?_
          exact k5 c0 c1 x1 M1 w1 c2 x2 M2 w2 c3 M5 w5 M6 w6
      · skip
        refine pg_aload_n (pc := 57) (i := 0) (j := 0) (x := 207) dX11_line_57 rfl rfl ?_
        refine pg_callV (pc := 58) (As := []) (st := []) okX11_readCloth lkX11_228 rfl h0.1 rfl (Nat.le_refl _) (Nat.le_of_ble_eq_true rfl) (e6 c0 c1 x1 M1 w1 c2) dX11_line_58 (fun r7 M7 w7 => ?_)
        obtain ⟨rfl, w7⟩ := w7
        refine pg_goto (pc := 61) (tgt := 84) dX11_line_61 (by decide) ?_
        refine pg_aload_n (pc := 84) (i := 0) (j := 0) (x := 207) dX11_line_84 rfl rfl ?_
        refine pg_bipush (pc := 85) (v := 59) dX11_line_85 (by decide) ?_
        refine pg_callV (pc := 87) (As := [.int 59]) (st := []) okX11_takeSign lkX11_237 rfl h0.1 rfl (Nat.le_refl _) (Nat.le_of_ble_eq_true rfl) (e7 c0 c1 x1 M1 w1 c2 M7 w7) dX11_line_87 (fun r8 M8 w8 => ?_)
        obtain ⟨rfl, w8⟩ := w8
        refine pg_goto (pc := 90) (tgt := 30) dX11_line_90 (by decide) ?_
        exact k6 c0 c1 x1 M1 w1 c2 M7 w7 M8 w8
theorem sX11_line_107 {v1 : Int32} 
    (h0 : pg_isX11 Λ)
    (k0 : (100 ≤ v1) → pg_At S Λ YX11_line (d + 1) 136 [(0, .ref 207), (1, .int 0)] [] M P)
    (b0 : (¬ 100 ≤ v1) → vp_in (100 + v1) 200)
    (b1 : (¬ 100 ≤ v1) → vp_in v1 200)
    (k1 : (¬ 100 ≤ v1) → pg_At S Λ YX11_line (d + 1) 107 [(0, .ref 207), (1, .int (v1 + 1))] [] (pg_si M 213 v1.toNatClampNeg (M.1 213 (100 + v1).toNatClampNeg)) P) :
    pg_At S Λ YX11_line (d + 1) 107 [(0, .ref 207), (1, .int v1)] [] M P := by
  refine pg_iload_n (pc := 107) (i := 1) (j := 1) (x := v1) dX11_line_107 rfl rfl ?_
  refine pg_bipush (pc := 108) (v := 100) dX11_line_108 (by decide) ?_
  refine pg_icmp_ge (pc := 110) (tgt := 134) dX11_line_110 (by decide) (fun c0 => ?_) (fun c0 => ?_)
  · skip
    refine pg_iconst (pc := 134) (v := 0) dX11_line_134 (by decide) ?_
    refine pg_istore_n (pc := 135) (i := 1) (ls' := [(1, .int 0), (0, .ref 207)]) dX11_line_135 rfl (by decide) rfl ?_
    refine pg_drop (ks := [1, 0]) (ls' := [(0, .ref 207), (1, .int 0)]) rfl ?_
    exact k0 c0
  · skip
    refine pg_aload_n (pc := 113) (i := 0) (j := 0) (x := 207) dX11_line_113 rfl rfl ?_
    refine gfX11_89 (pc := 114) rfl h0 dX11_line_114 ?_
    refine pg_iload_n (pc := 117) (i := 1) (j := 1) (x := v1) dX11_line_117 rfl rfl ?_
    refine pg_aload_n (pc := 118) (i := 0) (j := 0) (x := 207) dX11_line_118 rfl rfl ?_
    refine gfX11_89 (pc := 119) rfl h0 dX11_line_119 ?_
    refine pg_bipush (pc := 122) (v := 100) dX11_line_122 (by decide) ?_
    refine pg_iload_n (pc := 124) (i := 1) (j := 1) (x := v1) dX11_line_124 rfl rfl ?_
    refine pg_iadd (pc := 125) dX11_line_125 ?_
    refine pg_iald (pc := 126) h0.2.2.2.2.2.2.1 (b0 c0) dX11_line_126 ?_
    refine pg_iast (pc := 127) h0.2.2.2.2.2.2.1 (b1 c0) dX11_line_127 ?_
    refine pg_iinc (pc := 128) (i := 1) (j := 1) (x := v1) (v := v1 + 1) (ls' := [(1, .int (v1 + 1)), (0, .ref 207)]) dX11_line_128 rfl rfl (by decide) rfl ?_
    refine pg_goto (pc := 131) (tgt := 107) dX11_line_131 (by decide) ?_
    refine pg_drop (ks := [1, 0]) (ls' := [(0, .ref 207), (1, .int (v1 + 1))]) rfl ?_
    exact k1 c0
theorem sX11_line_136 {v1 : Int32} 
    (h0 : pg_isX11 Λ)
    (k0 : ((M.1 207 13) ≤ v1) → pg_At S Λ YX11_line (d + 1) 184 [(0, .ref 207), (1, .int 0)] [] M P)
    (b0 : (¬ (M.1 207 13) ≤ v1) → vp_in (1100 + v1) 2200)
    (b1 : (¬ (M.1 207 13) ≤ v1) → vp_in v1 2200)
    (k1 : (¬ (M.1 207 13) ≤ v1) → ∀ N1, N1 = pg_si (pg_si M 214 v1.toNatClampNeg (M.1 214 (1100 + v1).toNatClampNeg)) 215 v1.toNatClampNeg ((pg_si M 214 v1.toNatClampNeg (M.1 214 (1100 + v1).toNatClampNeg)).1 215 (1100 + v1).toNatClampNeg) → pg_At S Λ YX11_line (d + 1) 136 [(0, .ref 207), (1, .int (v1 + 1))] [] N1 P) :
    pg_At S Λ YX11_line (d + 1) 136 [(0, .ref 207), (1, .int v1)] [] M P := by
  refine pg_iload_n (pc := 136) (i := 1) (j := 1) (x := v1) dX11_line_136 rfl rfl ?_
  refine pg_aload_n (pc := 137) (i := 0) (j := 0) (x := 207) dX11_line_137 rfl rfl ?_
  refine gfX11_222 (pc := 138) rfl h0 dX11_line_138 ?_
  refine pg_icmp_ge (pc := 141) (tgt := 182) dX11_line_141 (by decide) (fun c0 => ?_) (fun c0 => ?_)
  · skip
    refine pg_iconst (pc := 182) (v := 0) dX11_line_182 (by decide) ?_
    refine pg_istore_n (pc := 183) (i := 1) (ls' := [(1, .int 0), (0, .ref 207)]) dX11_line_183 rfl (by decide) rfl ?_
    refine pg_drop (ks := [1, 0]) (ls' := [(0, .ref 207), (1, .int 0)]) rfl ?_
    exact k0 c0
  · skip
    refine pg_aload_n (pc := 144) (i := 0) (j := 0) (x := 207) dX11_line_144 rfl rfl ?_
    refine gfX11_92 (pc := 145) rfl h0 dX11_line_145 ?_
    refine pg_iload_n (pc := 148) (i := 1) (j := 1) (x := v1) dX11_line_148 rfl rfl ?_
    refine pg_aload_n (pc := 149) (i := 0) (j := 0) (x := 207) dX11_line_149 rfl rfl ?_
    refine gfX11_92 (pc := 150) rfl h0 dX11_line_150 ?_
    refine pg_sipush (pc := 153) (v := 1100) dX11_line_153 (by decide) ?_
    refine pg_iload_n (pc := 156) (i := 1) (j := 1) (x := v1) dX11_line_156 rfl rfl ?_
    refine pg_iadd (pc := 157) dX11_line_157 ?_
    refine pg_iald (pc := 158) h0.2.2.2.2.2.2.2.1 (b0 c0) dX11_line_158 ?_
    refine pg_iast (pc := 159) h0.2.2.2.2.2.2.2.1 (b1 c0) dX11_line_159 ?_
    refine pg_aload_n (pc := 160) (i := 0) (j := 0) (x := 207) dX11_line_160 rfl rfl ?_
    refine gfX11_95 (pc := 161) rfl h0 dX11_line_161 ?_
    refine pg_iload_n (pc := 164) (i := 1) (j := 1) (x := v1) dX11_line_164 rfl rfl ?_
    refine pg_aload_n (pc := 165) (i := 0) (j := 0) (x := 207) dX11_line_165 rfl rfl ?_
    refine gfX11_95 (pc := 166) rfl h0 dX11_line_166 ?_
    refine pg_sipush (pc := 169) (v := 1100) dX11_line_169 (by decide) ?_
    refine pg_iload_n (pc := 172) (i := 1) (j := 1) (x := v1) dX11_line_172 rfl rfl ?_
    refine pg_iadd (pc := 173) dX11_line_173 ?_
    refine pg_iald (pc := 174) h0.2.2.2.2.2.2.2.2.1 (b0 c0) dX11_line_174 ?_
    refine pg_iast (pc := 175) h0.2.2.2.2.2.2.2.2.1 (b1 c0) dX11_line_175 ?_
    refine pg_named (fun N1 u1 => ?_)
    refine pg_iinc (pc := 176) (i := 1) (j := 1) (x := v1) (v := v1 + 1) (ls' := [(1, .int (v1 + 1)), (0, .ref 207)]) dX11_line_176 rfl rfl (by decide) rfl ?_
    refine pg_goto (pc := 179) (tgt := 136) dX11_line_179 (by decide) ?_
    refine pg_drop (ks := [1, 0]) (ls' := [(0, .ref 207), (1, .int (v1 + 1))]) rfl ?_
    exact k1 c0 N1 u1
theorem sX11_line_184 {v1 : Int32} {Q0 : pg_M → Prop}
    (h0 : pg_isX11 Λ)
    (e0 : ((M.1 207 17) ≤ v1) → pg_Ev S Λ YX11_begins d [.ref 207] (pg_si M 207 16 (M.1 207 17)) (fun r M' => r = none ∧ Q0 M'))
    (k0 : ((M.1 207 17) ≤ v1) → ∀ M1, Q0 M1 → P (some (.int 0)) M1)
    (b0 : (¬ (M.1 207 17) ≤ v1) → vp_in v1 6)
    (k1 : (¬ (M.1 207 17) ≤ v1) → pg_At S Λ YX11_line (d + 1) 184 [(0, .ref 207), (1, .int (v1 + 1))] [] (pg_sj M 216 v1.toNatClampNeg (M.2.1 217 v1.toNatClampNeg)) P) :
    pg_At S Λ YX11_line (d + 1) 184 [(0, .ref 207), (1, .int v1)] [] M P := by
  refine pg_iload_n (pc := 184) (i := 1) (j := 1) (x := v1) dX11_line_184 rfl rfl ?_
  refine pg_aload_n (pc := 185) (i := 0) (j := 0) (x := 207) dX11_line_185 rfl rfl ?_
  refine gfX11_202 (pc := 186) rfl h0 dX11_line_186 ?_
  refine pg_icmp_ge (pc := 189) (tgt := 210) dX11_line_189 (by decide) (fun c0 => ?_) (fun c0 => ?_)
  · skip
    refine pg_aload_n (pc := 210) (i := 0) (j := 0) (x := 207) dX11_line_210 rfl rfl ?_
    refine pg_aload_n (pc := 211) (i := 0) (j := 0) (x := 207) dX11_line_211 rfl rfl ?_
    refine gfX11_202 (pc := 212) rfl h0 dX11_line_212 ?_
    refine pfX11_205 (pc := 215) rfl h0 dX11_line_215 ?_
    refine pg_aload_n (pc := 218) (i := 0) (j := 0) (x := 207) dX11_line_218 rfl rfl ?_
    refine pg_callV (pc := 219) (As := []) (st := []) okX11_begins lkX11_148 rfl h0.1 rfl (Nat.le_refl _) (Nat.le_of_ble_eq_true rfl) (e0 c0) dX11_line_219 (fun r1 M1 w1 => ?_)
    obtain ⟨rfl, w1⟩ := w1
    refine pg_iconst (pc := 222) (v := 0) dX11_line_222 (by decide) ?_
    exact pg_iret (pc := 223) rfl dX11_line_223 (k0 c0 M1 w1)
  · skip
    refine pg_aload_n (pc := 192) (i := 0) (j := 0) (x := 207) dX11_line_192 rfl rfl ?_
    refine gfX11_98 (pc := 193) rfl h0 dX11_line_193 ?_
    refine pg_iload_n (pc := 196) (i := 1) (j := 1) (x := v1) dX11_line_196 rfl rfl ?_
    refine pg_aload_n (pc := 197) (i := 0) (j := 0) (x := 207) dX11_line_197 rfl rfl ?_
    refine gfX11_101 (pc := 198) rfl h0 dX11_line_198 ?_
    refine pg_iload_n (pc := 201) (i := 1) (j := 1) (x := v1) dX11_line_201 rfl rfl ?_
    refine pg_lald (pc := 202) h0.2.2.2.2.2.2.2.2.2.2.1 (b0 c0) dX11_line_202 ?_
    refine pg_last (pc := 203) h0.2.2.2.2.2.2.2.2.2.1 (b0 c0) dX11_line_203 ?_
    refine pg_iinc (pc := 204) (i := 1) (j := 1) (x := v1) (v := v1 + 1) (ls' := [(1, .int (v1 + 1)), (0, .ref 207)]) dX11_line_204 rfl rfl (by decide) rfl ?_
    refine pg_goto (pc := 207) (tgt := 184) dX11_line_207 (by decide) ?_
    refine pg_drop (ks := [1, 0]) (ls' := [(0, .ref 207), (1, .int (v1 + 1))]) rfl ?_
    exact k1 c0
theorem oX11_line {d : Nat}  (h : pg_At S Λ YX11_line d 0 [(0, .ref 207)] [] M P) : pg_Ev S Λ YX11_line d [.ref 207] M P := pg_Ev.of (by decide) (by first | decide | exact Nat.le_of_ble_eq_true rfl) h
theorem sX11_readCloth_0  {Q0 : Int32 → pg_M → Prop} {Q1 : Int32 → pg_M → Prop} {Q2 : Int32 → pg_M → Prop} {Q3 : Int32 → pg_M → Prop} {Q4 : Int32 → pg_M → Prop} {Q5 : Int32 → pg_M → Prop} {Q6 : pg_M → Prop} {Q7 : Int32 → pg_M → Prop} {Q8 : Int32 → pg_M → Prop} {Q9 : Int32 → pg_M → Prop} {Q10 : Int32 → pg_M → Prop} {Q11 : pg_M → Prop} {Q12 : Int32 → pg_M → Prop} {Q13 : Int32 → pg_M → Prop} {Q14 : Int32 → pg_M → Prop} {Q15 : Int32 → pg_M → Prop} {Q16 : pg_M → Prop}
    (h0 : pg_isX11 Λ)
    (e0 : (¬ (M.1 213 (100 : Int32).toNatClampNeg) = 6) → pg_Ev S Λ YX11_isName d [.ref 207] (pg_si M 207 7 ((M.1 207 7) + 1)) (fun r M' => ∃ x, r = some (.int x) ∧ Q0 x M'))
    (e1 : (¬ (M.1 213 (100 : Int32).toNatClampNeg) = 6) → ∀ x1 M1, Q0 x1 M1 → (¬ x1 = 0) → pg_Ev S Λ YX11_find d [.ref 207, .int 1] M1 (fun r M' => ∃ x, r = some (.int x) ∧ Q1 x M'))
    (b0 : (¬ (M.1 213 (100 : Int32).toNatClampNeg) = 6) → ∀ x1 M1, Q0 x1 M1 → (¬ x1 = 0) → ∀ x2 M2, Q1 x2 M2 → (x2 < 0) → ((M2.1 207 8) ≤ 0) → vp_in (M2.1 207 7) 1002)
    (b1 : (¬ (M.1 213 (100 : Int32).toNatClampNeg) = 6) → ∀ x1 M1, Q0 x1 M1 → (¬ x1 = 0) → ∀ x2 M2, Q1 x2 M2 → (x2 < 0) → ((M2.1 207 8) ≤ 0) → vp_in (M2.1 207 17) 6)
    (e2 : (¬ (M.1 213 (100 : Int32).toNatClampNeg) = 6) → ∀ x1 M1, Q0 x1 M1 → (¬ x1 = 0) → ∀ x2 M2, Q1 x2 M2 → (x2 < 0) → ((M2.1 207 8) ≤ 0) → ∀ N1, N1 = pg_si (pg_sj M2 217 (M2.1 207 17).toNatClampNeg (M2.2.1 211 (M2.1 207 7).toNatClampNeg)) 207 17 (((pg_sj M2 217 (M2.1 207 17).toNatClampNeg (M2.2.1 211 (M2.1 207 7).toNatClampNeg)).1 207 17) + 1) → pg_Ev S Λ YX11_takeOne d [.ref 207, .int 16, .int 4] (pg_si N1 207 7 ((N1.1 207 7) + 1)) (fun r M' => ∃ x, r = some (.int x) ∧ Q2 x M'))
    (b2 : (¬ (M.1 213 (100 : Int32).toNatClampNeg) = 6) → ∀ x1 M1, Q0 x1 M1 → (¬ x1 = 0) → ∀ x2 M2, Q1 x2 M2 → (x2 < 0) → ((M2.1 207 8) ≤ 0) → ∀ N1, N1 = pg_si (pg_sj M2 217 (M2.1 207 17).toNatClampNeg (M2.2.1 211 (M2.1 207 7).toNatClampNeg)) 207 17 (((pg_sj M2 217 (M2.1 207 17).toNatClampNeg (M2.2.1 211 (M2.1 207 7).toNatClampNeg)).1 207 17) + 1) → ∀ x3 M3, Q2 x3 M3 → vp_in (108 + (4 * (M.1 213 (100 : Int32).toNatClampNeg))) 200)
    (e3 : (¬ (M.1 213 (100 : Int32).toNatClampNeg) = 6) → ∀ x1 M1, Q0 x1 M1 → (¬ x1 = 0) → ∀ x2 M2, Q1 x2 M2 → (x2 < 0) → ((M2.1 207 8) ≤ 0) → ∀ N1, N1 = pg_si (pg_sj M2 217 (M2.1 207 17).toNatClampNeg (M2.2.1 211 (M2.1 207 7).toNatClampNeg)) 207 17 (((pg_sj M2 217 (M2.1 207 17).toNatClampNeg (M2.2.1 211 (M2.1 207 7).toNatClampNeg)).1 207 17) + 1) → ∀ x3 M3, Q2 x3 M3 → pg_Ev S Λ YX11_takeAfter d [.ref 207, .int 1, .int 1, .int 20] (pg_si M3 213 (108 + (4 * (M.1 213 (100 : Int32).toNatClampNeg))).toNatClampNeg x3) (fun r M' => ∃ x, r = some (.int x) ∧ Q3 x M'))
    (b3 : (¬ (M.1 213 (100 : Int32).toNatClampNeg) = 6) → ∀ x1 M1, Q0 x1 M1 → (¬ x1 = 0) → ∀ x2 M2, Q1 x2 M2 → (x2 < 0) → ((M2.1 207 8) ≤ 0) → ∀ N1, N1 = pg_si (pg_sj M2 217 (M2.1 207 17).toNatClampNeg (M2.2.1 211 (M2.1 207 7).toNatClampNeg)) 207 17 (((pg_sj M2 217 (M2.1 207 17).toNatClampNeg (M2.2.1 211 (M2.1 207 7).toNatClampNeg)).1 207 17) + 1) → ∀ x3 M3, Q2 x3 M3 → ∀ x4 M4, Q3 x4 M4 → vp_in ((108 + (4 * (M.1 213 (100 : Int32).toNatClampNeg))) + 1) 200)
    (e4 : (¬ (M.1 213 (100 : Int32).toNatClampNeg) = 6) → ∀ x1 M1, Q0 x1 M1 → (¬ x1 = 0) → ∀ x2 M2, Q1 x2 M2 → (x2 < 0) → ((M2.1 207 8) ≤ 0) → ∀ N1, N1 = pg_si (pg_sj M2 217 (M2.1 207 17).toNatClampNeg (M2.2.1 211 (M2.1 207 7).toNatClampNeg)) 207 17 (((pg_sj M2 217 (M2.1 207 17).toNatClampNeg (M2.2.1 211 (M2.1 207 7).toNatClampNeg)).1 207 17) + 1) → ∀ x3 M3, Q2 x3 M3 → ∀ x4 M4, Q3 x4 M4 → pg_Ev S Λ YX11_takeAfter d [.ref 207, .int 2, .int 0, .int 20] (pg_si M4 213 ((108 + (4 * (M.1 213 (100 : Int32).toNatClampNeg))) + 1).toNatClampNeg x4) (fun r M' => ∃ x, r = some (.int x) ∧ Q4 x M'))
    (b4 : (¬ (M.1 213 (100 : Int32).toNatClampNeg) = 6) → ∀ x1 M1, Q0 x1 M1 → (¬ x1 = 0) → ∀ x2 M2, Q1 x2 M2 → (x2 < 0) → ((M2.1 207 8) ≤ 0) → ∀ N1, N1 = pg_si (pg_sj M2 217 (M2.1 207 17).toNatClampNeg (M2.2.1 211 (M2.1 207 7).toNatClampNeg)) 207 17 (((pg_sj M2 217 (M2.1 207 17).toNatClampNeg (M2.2.1 211 (M2.1 207 7).toNatClampNeg)).1 207 17) + 1) → ∀ x3 M3, Q2 x3 M3 → ∀ x4 M4, Q3 x4 M4 → ∀ x5 M5, Q4 x5 M5 → vp_in ((108 + (4 * (M.1 213 (100 : Int32).toNatClampNeg))) + 2) 200)
    (e5 : (¬ (M.1 213 (100 : Int32).toNatClampNeg) = 6) → ∀ x1 M1, Q0 x1 M1 → (¬ x1 = 0) → ∀ x2 M2, Q1 x2 M2 → (x2 < 0) → ((M2.1 207 8) ≤ 0) → ∀ N1, N1 = pg_si (pg_sj M2 217 (M2.1 207 17).toNatClampNeg (M2.2.1 211 (M2.1 207 7).toNatClampNeg)) 207 17 (((pg_sj M2 217 (M2.1 207 17).toNatClampNeg (M2.2.1 211 (M2.1 207 7).toNatClampNeg)).1 207 17) + 1) → ∀ x3 M3, Q2 x3 M3 → ∀ x4 M4, Q3 x4 M4 → ∀ x5 M5, Q4 x5 M5 → pg_Ev S Λ YX11_takeAfter d [.ref 207, .int 3, .int 0, .int 99] (pg_si M5 213 ((108 + (4 * (M.1 213 (100 : Int32).toNatClampNeg))) + 2).toNatClampNeg x5) (fun r M' => ∃ x, r = some (.int x) ∧ Q5 x M'))
    (b5 : (¬ (M.1 213 (100 : Int32).toNatClampNeg) = 6) → ∀ x1 M1, Q0 x1 M1 → (¬ x1 = 0) → ∀ x2 M2, Q1 x2 M2 → (x2 < 0) → ((M2.1 207 8) ≤ 0) → ∀ N1, N1 = pg_si (pg_sj M2 217 (M2.1 207 17).toNatClampNeg (M2.2.1 211 (M2.1 207 7).toNatClampNeg)) 207 17 (((pg_sj M2 217 (M2.1 207 17).toNatClampNeg (M2.2.1 211 (M2.1 207 7).toNatClampNeg)).1 207 17) + 1) → ∀ x3 M3, Q2 x3 M3 → ∀ x4 M4, Q3 x4 M4 → ∀ x5 M5, Q4 x5 M5 → ∀ x6 M6, Q5 x6 M6 → vp_in ((108 + (4 * (M.1 213 (100 : Int32).toNatClampNeg))) + 3) 200)
    (k0 : (¬ (M.1 213 (100 : Int32).toNatClampNeg) = 6) → ∀ x1 M1, Q0 x1 M1 → (¬ x1 = 0) → ∀ x2 M2, Q1 x2 M2 → (x2 < 0) → ((M2.1 207 8) ≤ 0) → ∀ N1, N1 = pg_si (pg_sj M2 217 (M2.1 207 17).toNatClampNeg (M2.2.1 211 (M2.1 207 7).toNatClampNeg)) 207 17 (((pg_sj M2 217 (M2.1 207 17).toNatClampNeg (M2.2.1 211 (M2.1 207 7).toNatClampNeg)).1 207 17) + 1) → ∀ x3 M3, Q2 x3 M3 → ∀ x4 M4, Q3 x4 M4 → ∀ x5 M5, Q4 x5 M5 → ∀ x6 M6, Q5 x6 M6 → ∀ N2, N2 = pg_si (pg_si M6 213 ((108 + (4 * (M.1 213 (100 : Int32).toNatClampNeg))) + 3).toNatClampNeg x6) 213 (100 : Int32).toNatClampNeg (((pg_si M6 213 ((108 + (4 * (M.1 213 (100 : Int32).toNatClampNeg))) + 3).toNatClampNeg x6).1 213 (100 : Int32).toNatClampNeg) + 1) → P none N2)
    (k1 : (¬ (M.1 213 (100 : Int32).toNatClampNeg) = 6) → ∀ x1 M1, Q0 x1 M1 → (¬ x1 = 0) → ∀ x2 M2, Q1 x2 M2 → (x2 < 0) → (¬ (M2.1 207 8) ≤ 0) → P none M2)
    (e6 : (¬ (M.1 213 (100 : Int32).toNatClampNeg) = 6) → ∀ x1 M1, Q0 x1 M1 → (¬ x1 = 0) → ∀ x2 M2, Q1 x2 M2 → (¬ x2 < 0) → pg_Ev S Λ YX11_wrong d [.ref 207, .int 3] M2 (fun r M' => r = none ∧ Q6 M'))
    (b6 : (¬ (M.1 213 (100 : Int32).toNatClampNeg) = 6) → ∀ x1 M1, Q0 x1 M1 → (¬ x1 = 0) → ∀ x2 M2, Q1 x2 M2 → (¬ x2 < 0) → ∀ M7, Q6 M7 → ((M7.1 207 8) ≤ 0) → vp_in (M7.1 207 7) 1002)
    (b7 : (¬ (M.1 213 (100 : Int32).toNatClampNeg) = 6) → ∀ x1 M1, Q0 x1 M1 → (¬ x1 = 0) → ∀ x2 M2, Q1 x2 M2 → (¬ x2 < 0) → ∀ M7, Q6 M7 → ((M7.1 207 8) ≤ 0) → vp_in (M7.1 207 17) 6)
    (e7 : (¬ (M.1 213 (100 : Int32).toNatClampNeg) = 6) → ∀ x1 M1, Q0 x1 M1 → (¬ x1 = 0) → ∀ x2 M2, Q1 x2 M2 → (¬ x2 < 0) → ∀ M7, Q6 M7 → ((M7.1 207 8) ≤ 0) → ∀ N3, N3 = pg_si (pg_sj M7 217 (M7.1 207 17).toNatClampNeg (M7.2.1 211 (M7.1 207 7).toNatClampNeg)) 207 17 (((pg_sj M7 217 (M7.1 207 17).toNatClampNeg (M7.2.1 211 (M7.1 207 7).toNatClampNeg)).1 207 17) + 1) → pg_Ev S Λ YX11_takeOne d [.ref 207, .int 16, .int 4] (pg_si N3 207 7 ((N3.1 207 7) + 1)) (fun r M' => ∃ x, r = some (.int x) ∧ Q7 x M'))
    (b8 : (¬ (M.1 213 (100 : Int32).toNatClampNeg) = 6) → ∀ x1 M1, Q0 x1 M1 → (¬ x1 = 0) → ∀ x2 M2, Q1 x2 M2 → (¬ x2 < 0) → ∀ M7, Q6 M7 → ((M7.1 207 8) ≤ 0) → ∀ N3, N3 = pg_si (pg_sj M7 217 (M7.1 207 17).toNatClampNeg (M7.2.1 211 (M7.1 207 7).toNatClampNeg)) 207 17 (((pg_sj M7 217 (M7.1 207 17).toNatClampNeg (M7.2.1 211 (M7.1 207 7).toNatClampNeg)).1 207 17) + 1) → ∀ x8 M8, Q7 x8 M8 → vp_in (108 + (4 * (M.1 213 (100 : Int32).toNatClampNeg))) 200)
    (e8 : (¬ (M.1 213 (100 : Int32).toNatClampNeg) = 6) → ∀ x1 M1, Q0 x1 M1 → (¬ x1 = 0) → ∀ x2 M2, Q1 x2 M2 → (¬ x2 < 0) → ∀ M7, Q6 M7 → ((M7.1 207 8) ≤ 0) → ∀ N3, N3 = pg_si (pg_sj M7 217 (M7.1 207 17).toNatClampNeg (M7.2.1 211 (M7.1 207 7).toNatClampNeg)) 207 17 (((pg_sj M7 217 (M7.1 207 17).toNatClampNeg (M7.2.1 211 (M7.1 207 7).toNatClampNeg)).1 207 17) + 1) → ∀ x8 M8, Q7 x8 M8 → pg_Ev S Λ YX11_takeAfter d [.ref 207, .int 1, .int 1, .int 20] (pg_si M8 213 (108 + (4 * (M.1 213 (100 : Int32).toNatClampNeg))).toNatClampNeg x8) (fun r M' => ∃ x, r = some (.int x) ∧ Q8 x M'))
    (b9 : (¬ (M.1 213 (100 : Int32).toNatClampNeg) = 6) → ∀ x1 M1, Q0 x1 M1 → (¬ x1 = 0) → ∀ x2 M2, Q1 x2 M2 → (¬ x2 < 0) → ∀ M7, Q6 M7 → ((M7.1 207 8) ≤ 0) → ∀ N3, N3 = pg_si (pg_sj M7 217 (M7.1 207 17).toNatClampNeg (M7.2.1 211 (M7.1 207 7).toNatClampNeg)) 207 17 (((pg_sj M7 217 (M7.1 207 17).toNatClampNeg (M7.2.1 211 (M7.1 207 7).toNatClampNeg)).1 207 17) + 1) → ∀ x8 M8, Q7 x8 M8 → ∀ x9 M9, Q8 x9 M9 → vp_in ((108 + (4 * (M.1 213 (100 : Int32).toNatClampNeg))) + 1) 200)
    (e9 : (¬ (M.1 213 (100 : Int32).toNatClampNeg) = 6) → ∀ x1 M1, Q0 x1 M1 → (¬ x1 = 0) → ∀ x2 M2, Q1 x2 M2 → (¬ x2 < 0) → ∀ M7, Q6 M7 → ((M7.1 207 8) ≤ 0) → ∀ N3, N3 = pg_si (pg_sj M7 217 (M7.1 207 17).toNatClampNeg (M7.2.1 211 (M7.1 207 7).toNatClampNeg)) 207 17 (((pg_sj M7 217 (M7.1 207 17).toNatClampNeg (M7.2.1 211 (M7.1 207 7).toNatClampNeg)).1 207 17) + 1) → ∀ x8 M8, Q7 x8 M8 → ∀ x9 M9, Q8 x9 M9 → pg_Ev S Λ YX11_takeAfter d [.ref 207, .int 2, .int 0, .int 20] (pg_si M9 213 ((108 + (4 * (M.1 213 (100 : Int32).toNatClampNeg))) + 1).toNatClampNeg x9) (fun r M' => ∃ x, r = some (.int x) ∧ Q9 x M'))
    (b10 : (¬ (M.1 213 (100 : Int32).toNatClampNeg) = 6) → ∀ x1 M1, Q0 x1 M1 → (¬ x1 = 0) → ∀ x2 M2, Q1 x2 M2 → (¬ x2 < 0) → ∀ M7, Q6 M7 → ((M7.1 207 8) ≤ 0) → ∀ N3, N3 = pg_si (pg_sj M7 217 (M7.1 207 17).toNatClampNeg (M7.2.1 211 (M7.1 207 7).toNatClampNeg)) 207 17 (((pg_sj M7 217 (M7.1 207 17).toNatClampNeg (M7.2.1 211 (M7.1 207 7).toNatClampNeg)).1 207 17) + 1) → ∀ x8 M8, Q7 x8 M8 → ∀ x9 M9, Q8 x9 M9 → ∀ x10 M10, Q9 x10 M10 → vp_in ((108 + (4 * (M.1 213 (100 : Int32).toNatClampNeg))) + 2) 200)
    (e10 : (¬ (M.1 213 (100 : Int32).toNatClampNeg) = 6) → ∀ x1 M1, Q0 x1 M1 → (¬ x1 = 0) → ∀ x2 M2, Q1 x2 M2 → (¬ x2 < 0) → ∀ M7, Q6 M7 → ((M7.1 207 8) ≤ 0) → ∀ N3, N3 = pg_si (pg_sj M7 217 (M7.1 207 17).toNatClampNeg (M7.2.1 211 (M7.1 207 7).toNatClampNeg)) 207 17 (((pg_sj M7 217 (M7.1 207 17).toNatClampNeg (M7.2.1 211 (M7.1 207 7).toNatClampNeg)).1 207 17) + 1) → ∀ x8 M8, Q7 x8 M8 → ∀ x9 M9, Q8 x9 M9 → ∀ x10 M10, Q9 x10 M10 → pg_Ev S Λ YX11_takeAfter d [.ref 207, .int 3, .int 0, .int 99] (pg_si M10 213 ((108 + (4 * (M.1 213 (100 : Int32).toNatClampNeg))) + 2).toNatClampNeg x10) (fun r M' => ∃ x, r = some (.int x) ∧ Q10 x M'))
    (b11 : (¬ (M.1 213 (100 : Int32).toNatClampNeg) = 6) → ∀ x1 M1, Q0 x1 M1 → (¬ x1 = 0) → ∀ x2 M2, Q1 x2 M2 → (¬ x2 < 0) → ∀ M7, Q6 M7 → ((M7.1 207 8) ≤ 0) → ∀ N3, N3 = pg_si (pg_sj M7 217 (M7.1 207 17).toNatClampNeg (M7.2.1 211 (M7.1 207 7).toNatClampNeg)) 207 17 (((pg_sj M7 217 (M7.1 207 17).toNatClampNeg (M7.2.1 211 (M7.1 207 7).toNatClampNeg)).1 207 17) + 1) → ∀ x8 M8, Q7 x8 M8 → ∀ x9 M9, Q8 x9 M9 → ∀ x10 M10, Q9 x10 M10 → ∀ x11 M11, Q10 x11 M11 → vp_in ((108 + (4 * (M.1 213 (100 : Int32).toNatClampNeg))) + 3) 200)
    (k2 : (¬ (M.1 213 (100 : Int32).toNatClampNeg) = 6) → ∀ x1 M1, Q0 x1 M1 → (¬ x1 = 0) → ∀ x2 M2, Q1 x2 M2 → (¬ x2 < 0) → ∀ M7, Q6 M7 → ((M7.1 207 8) ≤ 0) → ∀ N3, N3 = pg_si (pg_sj M7 217 (M7.1 207 17).toNatClampNeg (M7.2.1 211 (M7.1 207 7).toNatClampNeg)) 207 17 (((pg_sj M7 217 (M7.1 207 17).toNatClampNeg (M7.2.1 211 (M7.1 207 7).toNatClampNeg)).1 207 17) + 1) → ∀ x8 M8, Q7 x8 M8 → ∀ x9 M9, Q8 x9 M9 → ∀ x10 M10, Q9 x10 M10 → ∀ x11 M11, Q10 x11 M11 → ∀ N4, N4 = pg_si (pg_si M11 213 ((108 + (4 * (M.1 213 (100 : Int32).toNatClampNeg))) + 3).toNatClampNeg x11) 213 (100 : Int32).toNatClampNeg (((pg_si M11 213 ((108 + (4 * (M.1 213 (100 : Int32).toNatClampNeg))) + 3).toNatClampNeg x11).1 213 (100 : Int32).toNatClampNeg) + 1) → P none N4)
    (k3 : (¬ (M.1 213 (100 : Int32).toNatClampNeg) = 6) → ∀ x1 M1, Q0 x1 M1 → (¬ x1 = 0) → ∀ x2 M2, Q1 x2 M2 → (¬ x2 < 0) → ∀ M7, Q6 M7 → (¬ (M7.1 207 8) ≤ 0) → P none M7)
    (e11 : (¬ (M.1 213 (100 : Int32).toNatClampNeg) = 6) → ∀ x1 M1, Q0 x1 M1 → (x1 = 0) → pg_Ev S Λ YX11_wrong d [.ref 207, .int 1] M1 (fun r M' => r = none ∧ Q11 M'))
    (b12 : (¬ (M.1 213 (100 : Int32).toNatClampNeg) = 6) → ∀ x1 M1, Q0 x1 M1 → (x1 = 0) → ∀ M12, Q11 M12 → ((M12.1 207 8) ≤ 0) → vp_in (M12.1 207 7) 1002)
    (b13 : (¬ (M.1 213 (100 : Int32).toNatClampNeg) = 6) → ∀ x1 M1, Q0 x1 M1 → (x1 = 0) → ∀ M12, Q11 M12 → ((M12.1 207 8) ≤ 0) → vp_in (M12.1 207 17) 6)
    (e12 : (¬ (M.1 213 (100 : Int32).toNatClampNeg) = 6) → ∀ x1 M1, Q0 x1 M1 → (x1 = 0) → ∀ M12, Q11 M12 → ((M12.1 207 8) ≤ 0) → ∀ N5, N5 = pg_si (pg_sj M12 217 (M12.1 207 17).toNatClampNeg (M12.2.1 211 (M12.1 207 7).toNatClampNeg)) 207 17 (((pg_sj M12 217 (M12.1 207 17).toNatClampNeg (M12.2.1 211 (M12.1 207 7).toNatClampNeg)).1 207 17) + 1) → pg_Ev S Λ YX11_takeOne d [.ref 207, .int 16, .int 4] (pg_si N5 207 7 ((N5.1 207 7) + 1)) (fun r M' => ∃ x, r = some (.int x) ∧ Q12 x M'))
    (b14 : (¬ (M.1 213 (100 : Int32).toNatClampNeg) = 6) → ∀ x1 M1, Q0 x1 M1 → (x1 = 0) → ∀ M12, Q11 M12 → ((M12.1 207 8) ≤ 0) → ∀ N5, N5 = pg_si (pg_sj M12 217 (M12.1 207 17).toNatClampNeg (M12.2.1 211 (M12.1 207 7).toNatClampNeg)) 207 17 (((pg_sj M12 217 (M12.1 207 17).toNatClampNeg (M12.2.1 211 (M12.1 207 7).toNatClampNeg)).1 207 17) + 1) → ∀ x13 M13, Q12 x13 M13 → vp_in (108 + (4 * (M.1 213 (100 : Int32).toNatClampNeg))) 200)
    (e13 : (¬ (M.1 213 (100 : Int32).toNatClampNeg) = 6) → ∀ x1 M1, Q0 x1 M1 → (x1 = 0) → ∀ M12, Q11 M12 → ((M12.1 207 8) ≤ 0) → ∀ N5, N5 = pg_si (pg_sj M12 217 (M12.1 207 17).toNatClampNeg (M12.2.1 211 (M12.1 207 7).toNatClampNeg)) 207 17 (((pg_sj M12 217 (M12.1 207 17).toNatClampNeg (M12.2.1 211 (M12.1 207 7).toNatClampNeg)).1 207 17) + 1) → ∀ x13 M13, Q12 x13 M13 → pg_Ev S Λ YX11_takeAfter d [.ref 207, .int 1, .int 1, .int 20] (pg_si M13 213 (108 + (4 * (M.1 213 (100 : Int32).toNatClampNeg))).toNatClampNeg x13) (fun r M' => ∃ x, r = some (.int x) ∧ Q13 x M'))
    (b15 : (¬ (M.1 213 (100 : Int32).toNatClampNeg) = 6) → ∀ x1 M1, Q0 x1 M1 → (x1 = 0) → ∀ M12, Q11 M12 → ((M12.1 207 8) ≤ 0) → ∀ N5, N5 = pg_si (pg_sj M12 217 (M12.1 207 17).toNatClampNeg (M12.2.1 211 (M12.1 207 7).toNatClampNeg)) 207 17 (((pg_sj M12 217 (M12.1 207 17).toNatClampNeg (M12.2.1 211 (M12.1 207 7).toNatClampNeg)).1 207 17) + 1) → ∀ x13 M13, Q12 x13 M13 → ∀ x14 M14, Q13 x14 M14 → vp_in ((108 + (4 * (M.1 213 (100 : Int32).toNatClampNeg))) + 1) 200)
    (e14 : (¬ (M.1 213 (100 : Int32).toNatClampNeg) = 6) → ∀ x1 M1, Q0 x1 M1 → (x1 = 0) → ∀ M12, Q11 M12 → ((M12.1 207 8) ≤ 0) → ∀ N5, N5 = pg_si (pg_sj M12 217 (M12.1 207 17).toNatClampNeg (M12.2.1 211 (M12.1 207 7).toNatClampNeg)) 207 17 (((pg_sj M12 217 (M12.1 207 17).toNatClampNeg (M12.2.1 211 (M12.1 207 7).toNatClampNeg)).1 207 17) + 1) → ∀ x13 M13, Q12 x13 M13 → ∀ x14 M14, Q13 x14 M14 → pg_Ev S Λ YX11_takeAfter d [.ref 207, .int 2, .int 0, .int 20] (pg_si M14 213 ((108 + (4 * (M.1 213 (100 : Int32).toNatClampNeg))) + 1).toNatClampNeg x14) (fun r M' => ∃ x, r = some (.int x) ∧ Q14 x M'))
    (b16 : (¬ (M.1 213 (100 : Int32).toNatClampNeg) = 6) → ∀ x1 M1, Q0 x1 M1 → (x1 = 0) → ∀ M12, Q11 M12 → ((M12.1 207 8) ≤ 0) → ∀ N5, N5 = pg_si (pg_sj M12 217 (M12.1 207 17).toNatClampNeg (M12.2.1 211 (M12.1 207 7).toNatClampNeg)) 207 17 (((pg_sj M12 217 (M12.1 207 17).toNatClampNeg (M12.2.1 211 (M12.1 207 7).toNatClampNeg)).1 207 17) + 1) → ∀ x13 M13, Q12 x13 M13 → ∀ x14 M14, Q13 x14 M14 → ∀ x15 M15, Q14 x15 M15 → vp_in ((108 + (4 * (M.1 213 (100 : Int32).toNatClampNeg))) + 2) 200)
    (e15 : (¬ (M.1 213 (100 : Int32).toNatClampNeg) = 6) → ∀ x1 M1, Q0 x1 M1 → (x1 = 0) → ∀ M12, Q11 M12 → ((M12.1 207 8) ≤ 0) → ∀ N5, N5 = pg_si (pg_sj M12 217 (M12.1 207 17).toNatClampNeg (M12.2.1 211 (M12.1 207 7).toNatClampNeg)) 207 17 (((pg_sj M12 217 (M12.1 207 17).toNatClampNeg (M12.2.1 211 (M12.1 207 7).toNatClampNeg)).1 207 17) + 1) → ∀ x13 M13, Q12 x13 M13 → ∀ x14 M14, Q13 x14 M14 → ∀ x15 M15, Q14 x15 M15 → pg_Ev S Λ YX11_takeAfter d [.ref 207, .int 3, .int 0, .int 99] (pg_si M15 213 ((108 + (4 * (M.1 213 (100 : Int32).toNatClampNeg))) + 2).toNatClampNeg x15) (fun r M' => ∃ x, r = some (.int x) ∧ Q15 x M'))
    (b17 : (¬ (M.1 213 (100 : Int32).toNatClampNeg) = 6) → ∀ x1 M1, Q0 x1 M1 → (x1 = 0) → ∀ M12, Q11 M12 → ((M12.1 207 8) ≤ 0) → ∀ N5, N5 = pg_si (pg_sj M12 217 (M12.1 207 17).toNatClampNeg (M12.2.1 211 (M12.1 207 7).toNatClampNeg)) 207 17 (((pg_sj M12 217 (M12.1 207 17).toNatClampNeg (M12.2.1 211 (M12.1 207 7).toNatClampNeg)).1 207 17) + 1) → ∀ x13 M13, Q12 x13 M13 → ∀ x14 M14, Q13 x14 M14 → ∀ x15 M15, Q14 x15 M15 → ∀ x16 M16, Q15 x16 M16 → vp_in ((108 + (4 * (M.1 213 (100 : Int32).toNatClampNeg))) + 3) 200)
    (k4 : (¬ (M.1 213 (100 : Int32).toNatClampNeg) = 6) → ∀ x1 M1, Q0 x1 M1 → (x1 = 0) → ∀ M12, Q11 M12 → ((M12.1 207 8) ≤ 0) → ∀ N5, N5 = pg_si (pg_sj M12 217 (M12.1 207 17).toNatClampNeg (M12.2.1 211 (M12.1 207 7).toNatClampNeg)) 207 17 (((pg_sj M12 217 (M12.1 207 17).toNatClampNeg (M12.2.1 211 (M12.1 207 7).toNatClampNeg)).1 207 17) + 1) → ∀ x13 M13, Q12 x13 M13 → ∀ x14 M14, Q13 x14 M14 → ∀ x15 M15, Q14 x15 M15 → ∀ x16 M16, Q15 x16 M16 → ∀ N6, N6 = pg_si (pg_si M16 213 ((108 + (4 * (M.1 213 (100 : Int32).toNatClampNeg))) + 3).toNatClampNeg x16) 213 (100 : Int32).toNatClampNeg (((pg_si M16 213 ((108 + (4 * (M.1 213 (100 : Int32).toNatClampNeg))) + 3).toNatClampNeg x16).1 213 (100 : Int32).toNatClampNeg) + 1) → P none N6)
    (k5 : (¬ (M.1 213 (100 : Int32).toNatClampNeg) = 6) → ∀ x1 M1, Q0 x1 M1 → (x1 = 0) → ∀ M12, Q11 M12 → (¬ (M12.1 207 8) ≤ 0) → P none M12)
    (e16 : ((M.1 213 (100 : Int32).toNatClampNeg) = 6) → pg_Ev S Λ YX11_wrong d [.ref 207, .int 5] M (fun r M' => r = none ∧ Q16 M'))
    (k6 : ((M.1 213 (100 : Int32).toNatClampNeg) = 6) → ∀ M17, Q16 M17 → P none M17) :
    pg_At S Λ YX11_readCloth (d + 1) 0 [(0, .ref 207)] [] M P := by
  refine pg_aload_n (pc := 0) (i := 0) (j := 0) (x := 207) dX11_readCloth_0 rfl rfl ?_
  refine gfX11_89 (pc := 1) rfl h0 dX11_readCloth_1 ?_
  refine pg_bipush (pc := 4) (v := 100) dX11_readCloth_4 (by decide) ?_
  refine pg_iald (pc := 6) h0.2.2.2.2.2.2.1 (by unfold vp_in; decide) dX11_readCloth_6 ?_
  refine pg_istore_n (pc := 7) (i := 1) (ls' := [(1, .int (M.1 213 (100 : Int32).toNatClampNeg)), (0, .ref 207)]) dX11_readCloth_7 rfl (by decide) rfl ?_
  refine pg_iload_n (pc := 8) (i := 1) (j := 0) (x := (M.1 213 (100 : Int32).toNatClampNeg)) dX11_readCloth_8 rfl rfl ?_
  refine pg_bipush (pc := 9) (v := 6) dX11_readCloth_9 (by decide) ?_
  refine pg_icmp_ne (pc := 11) (tgt := 20) dX11_readCloth_11 (by decide) (fun c0 => ?_) (fun c0 => ?_)
  · skip
    refine pg_aload_n (pc := 20) (i := 0) (j := 1) (x := 207) dX11_readCloth_20 rfl rfl ?_
    refine pg_dup (pc := 21) dX11_readCloth_21 rfl ?_
    refine gfX11_174 (pc := 22) rfl h0 dX11_readCloth_22 ?_
    refine pg_iconst (pc := 25) (v := 1) dX11_readCloth_25 (by decide) ?_
    refine pg_iadd (pc := 26) dX11_readCloth_26 ?_
    refine pfX11_174 (pc := 27) rfl h0 dX11_readCloth_27 ?_
    refine pg_aload_n (pc := 30) (i := 0) (j := 1) (x := 207) dX11_readCloth_30 rfl rfl ?_
    refine pg_callV (pc := 31) (As := []) (st := []) okX11_isName lkX11_208 rfl h0.1 rfl (Nat.le_refl _) (Nat.le_of_ble_eq_true rfl) (e0 c0) dX11_readCloth_31 (fun r1 M1 w1 => ?_)
    obtain ⟨x1, rfl, w1⟩ := w1
    refine pg_if_ne (pc := 34) (tgt := 45) dX11_readCloth_34 (by decide) (fun c1 => ?_) (fun c1 => ?_)
    · skip
      refine pg_aload_n (pc := 45) (i := 0) (j := 1) (x := 207) dX11_readCloth_45 rfl rfl ?_
      refine pg_iconst (pc := 46) (v := 1) dX11_readCloth_46 (by decide) ?_
      refine pg_callV (pc := 47) (As := [.int 1]) (st := []) okX11_find lkX11_212 rfl h0.1 rfl (Nat.le_refl _) (Nat.le_of_ble_eq_true rfl) (e1 c0 x1 M1 w1 c1) dX11_readCloth_47 (fun r2 M2 w2 => ?_)
      obtain ⟨x2, rfl, w2⟩ := w2
      refine pg_if_lt (pc := 50) (tgt := 58) dX11_readCloth_50 (by decide) (fun c2 => ?_) (fun c2 => ?_)
      · skip
        refine pg_aload_n (pc := 58) (i := 0) (j := 1) (x := 207) dX11_readCloth_58 rfl rfl ?_
        refine gfX11_177 (pc := 59) rfl h0 dX11_readCloth_59 ?_
        refine pg_if_le (pc := 62) (tgt := 66) dX11_readCloth_62 (by decide) (fun c3 => ?_) (fun c3 => ?_)
        · skip
          refine pg_aload_n (pc := 66) (i := 0) (j := 1) (x := 207) dX11_readCloth_66 rfl rfl ?_
          refine gfX11_101 (pc := 67) rfl h0 dX11_readCloth_67 ?_
          refine pg_aload_n (pc := 70) (i := 0) (j := 1) (x := 207) dX11_readCloth_70 rfl rfl ?_
          refine gfX11_202 (pc := 71) rfl h0 dX11_readCloth_71 ?_
          refine pg_aload_n (pc := 74) (i := 0) (j := 1) (x := 207) dX11_readCloth_74 rfl rfl ?_
          refine gfX11_30 (pc := 75) rfl h0 dX11_readCloth_75 ?_
          refine pg_aload_n (pc := 78) (i := 0) (j := 1) (x := 207) dX11_readCloth_78 rfl rfl ?_
          refine gfX11_174 (pc := 79) rfl h0 dX11_readCloth_79 ?_
          refine pg_lald (pc := 82) h0.2.2.2.2.1 (b0 c0 x1 M1 w1 c1 x2 M2 w2 c2 c3) dX11_readCloth_82 ?_
          refine pg_last (pc := 83) h0.2.2.2.2.2.2.2.2.2.2.1 (b1 c0 x1 M1 w1 c1 x2 M2 w2 c2 c3) dX11_readCloth_83 ?_
          refine pg_aload_n (pc := 84) (i := 0) (j := 1) (x := 207) dX11_readCloth_84 rfl rfl ?_
          refine pg_dup (pc := 85) dX11_readCloth_85 rfl ?_
          refine gfX11_202 (pc := 86) rfl h0 dX11_readCloth_86 ?_
          refine pg_iconst (pc := 89) (v := 1) dX11_readCloth_89 (by decide) ?_
          refine pg_iadd (pc := 90) dX11_readCloth_90 ?_
          refine pfX11_202 (pc := 91) rfl h0 dX11_readCloth_91 ?_
          refine pg_named (fun N1 u1 => ?_)
          refine pg_aload_n (pc := 94) (i := 0) (j := 1) (x := 207) dX11_readCloth_94 rfl rfl ?_
          refine pg_dup (pc := 95) dX11_readCloth_95 rfl ?_
          refine gfX11_174 (pc := 96) rfl h0 dX11_readCloth_96 ?_
          refine pg_iconst (pc := 99) (v := 1) dX11_readCloth_99 (by decide) ?_
          refine pg_iadd (pc := 100) dX11_readCloth_100 ?_
          refine pfX11_174 (pc := 101) rfl h0 dX11_readCloth_101 ?_
          refine pg_bipush (pc := 104) (v := 108) dX11_readCloth_104 (by decide) ?_
          refine pg_iconst (pc := 106) (v := 4) dX11_readCloth_106 (by decide) ?_
          refine pg_iload_n (pc := 107) (i := 1) (j := 0) (x := (M.1 213 (100 : Int32).toNatClampNeg)) dX11_readCloth_107 rfl rfl ?_
          refine pg_imul (pc := 108) dX11_readCloth_108 ?_
          refine pg_iadd (pc := 109) dX11_readCloth_109 ?_
          refine pg_istore_n (pc := 110) (i := 2) (ls' := [(2, .int (108 + (4 * (M.1 213 (100 : Int32).toNatClampNeg)))), (1, .int (M.1 213 (100 : Int32).toNatClampNeg)), (0, .ref 207)]) dX11_readCloth_110 rfl (by decide) rfl ?_
          refine pg_aload_n (pc := 111) (i := 0) (j := 2) (x := 207) dX11_readCloth_111 rfl rfl ?_
          refine gfX11_89 (pc := 112) rfl h0 dX11_readCloth_112 ?_
          refine pg_iload_n (pc := 115) (i := 2) (j := 0) (x := (108 + (4 * (M.1 213 (100 : Int32).toNatClampNeg)))) dX11_readCloth_115 rfl rfl ?_
          refine pg_aload_n (pc := 116) (i := 0) (j := 2) (x := 207) dX11_readCloth_116 rfl rfl ?_
          refine pg_bipush (pc := 117) (v := 16) dX11_readCloth_117 (by decide) ?_
          refine pg_iconst (pc := 119) (v := 4) dX11_readCloth_119 (by decide) ?_
          refine pg_callV (pc := 120) (As := [.int 16, .int 4]) (st := [.int (108 + (4 * (M.1 213 (100 : Int32).toNatClampNeg))), .ref 213]) okX11_takeOne lkX11_240 rfl h0.1 rfl (Nat.le_refl _) (Nat.le_of_ble_eq_true rfl) (e2 c0 x1 M1 w1 c1 x2 M2 w2 c2 c3 N1 u1) dX11_readCloth_120 (fun r3 M3 w3 => ?_)
          obtain ⟨x3, rfl, w3⟩ := w3
          refine pg_iast (pc := 123) h0.2.2.2.2.2.2.1 (b2 c0 x1 M1 w1 c1 x2 M2 w2 c2 c3 N1 u1 x3 M3 w3) dX11_readCloth_123 ?_
          refine pg_aload_n (pc := 124) (i := 0) (j := 2) (x := 207) dX11_readCloth_124 rfl rfl ?_
          refine gfX11_89 (pc := 125) rfl h0 dX11_readCloth_125 ?_
          refine pg_iload_n (pc := 128) (i := 2) (j := 0) (x := (108 + (4 * (M.1 213 (100 : Int32).toNatClampNeg)))) dX11_readCloth_128 rfl rfl ?_
          refine pg_iconst (pc := 129) (v := 1) dX11_readCloth_129 (by decide) ?_
          refine pg_iadd (pc := 130) dX11_readCloth_130 ?_
          refine pg_aload_n (pc := 131) (i := 0) (j := 2) (x := 207) dX11_readCloth_131 rfl rfl ?_
          refine pg_iconst (pc := 132) (v := 1) dX11_readCloth_132 (by decide) ?_
          refine pg_iconst (pc := 133) (v := 1) dX11_readCloth_133 (by decide) ?_
          refine pg_bipush (pc := 134) (v := 20) dX11_readCloth_134 (by decide) ?_
          refine pg_callV (pc := 136) (As := [.int 1, .int 1, .int 20]) (st := [.int ((108 + (4 * (M.1 213 (100 : Int32).toNatClampNeg))) + 1), .ref 213]) okX11_takeAfter lkX11_243 rfl h0.1 rfl (Nat.le_refl _) (Nat.le_of_ble_eq_true rfl) (e3 c0 x1 M1 w1 c1 x2 M2 w2 c2 c3 N1 u1 x3 M3 w3) dX11_readCloth_136 (fun r4 M4 w4 => ?_)
          obtain ⟨x4, rfl, w4⟩ := w4
          refine pg_iast (pc := 139) h0.2.2.2.2.2.2.1 (b3 c0 x1 M1 w1 c1 x2 M2 w2 c2 c3 N1 u1 x3 M3 w3 x4 M4 w4) dX11_readCloth_139 ?_
          refine pg_aload_n (pc := 140) (i := 0) (j := 2) (x := 207) dX11_readCloth_140 rfl rfl ?_
          refine gfX11_89 (pc := 141) rfl h0 dX11_readCloth_141 ?_
          refine pg_iload_n (pc := 144) (i := 2) (j := 0) (x := (108 + (4 * (M.1 213 (100 : Int32).toNatClampNeg)))) dX11_readCloth_144 rfl rfl ?_
          refine pg_iconst (pc := 145) (v := 2) dX11_readCloth_145 (by decide) ?_
          refine pg_iadd (pc := 146) dX11_readCloth_146 ?_
          refine pg_aload_n (pc := 147) (i := 0) (j := 2) (x := 207) dX11_readCloth_147 rfl rfl ?_
          refine pg_iconst (pc := 148) (v := 2) dX11_readCloth_148 (by decide) ?_
          refine pg_iconst (pc := 149) (v := 0) dX11_readCloth_149 (by decide) ?_
          refine pg_bipush (pc := 150) (v := 20) dX11_readCloth_150 (by decide) ?_
          refine pg_callV (pc := 152) (As := [.int 2, .int 0, .int 20]) (st := [.int ((108 + (4 * (M.1 213 (100 : Int32).toNatClampNeg))) + 2), .ref 213]) okX11_takeAfter lkX11_243 rfl h0.1 rfl (Nat.le_refl _) (Nat.le_of_ble_eq_true rfl) (e4 c0 x1 M1 w1 c1 x2 M2 w2 c2 c3 N1 u1 x3 M3 w3 x4 M4 w4) dX11_readCloth_152 (fun r5 M5 w5 => ?_)
          obtain ⟨x5, rfl, w5⟩ := w5
          refine pg_iast (pc := 155) h0.2.2.2.2.2.2.1 (b4 c0 x1 M1 w1 c1 x2 M2 w2 c2 c3 N1 u1 x3 M3 w3 x4 M4 w4 x5 M5 w5) dX11_readCloth_155 ?_
          refine pg_aload_n (pc := 156) (i := 0) (j := 2) (x := 207) dX11_readCloth_156 rfl rfl ?_
          refine gfX11_89 (pc := 157) rfl h0 dX11_readCloth_157 ?_
          refine pg_iload_n (pc := 160) (i := 2) (j := 0) (x := (108 + (4 * (M.1 213 (100 : Int32).toNatClampNeg)))) dX11_readCloth_160 rfl rfl ?_
          refine pg_iconst (pc := 161) (v := 3) dX11_readCloth_161 (by decide) ?_
          refine pg_iadd (pc := 162) dX11_readCloth_162 ?_
          refine pg_aload_n (pc := 163) (i := 0) (j := 2) (x := 207) dX11_readCloth_163 rfl rfl ?_
          refine pg_iconst (pc := 164) (v := 3) dX11_readCloth_164 (by decide) ?_
          refine pg_iconst (pc := 165) (v := 0) dX11_readCloth_165 (by decide) ?_
          refine pg_bipush (pc := 166) (v := 99) dX11_readCloth_166 (by decide) ?_
          refine pg_callV (pc := 168) (As := [.int 3, .int 0, .int 99]) (st := [.int ((108 + (4 * (M.1 213 (100 : Int32).toNatClampNeg))) + 3), .ref 213]) okX11_takeAfter lkX11_243 rfl h0.1 rfl (Nat.le_refl _) (Nat.le_of_ble_eq_true rfl) (e5 c0 x1 M1 w1 c1 x2 M2 w2 c2 c3 N1 u1 x3 M3 w3 x4 M4 w4 x5 M5 w5) dX11_readCloth_168 (fun r6 M6 w6 => ?_)
          obtain ⟨x6, rfl, w6⟩ := w6
          refine pg_iast (pc := 171) h0.2.2.2.2.2.2.1 (b5 c0 x1 M1 w1 c1 x2 M2 w2 c2 c3 N1 u1 x3 M3 w3 x4 M4 w4 x5 M5 w5 x6 M6 w6) dX11_readCloth_171 ?_
          refine pg_aload_n (pc := 172) (i := 0) (j := 2) (x := 207) dX11_readCloth_172 rfl rfl ?_
          refine gfX11_89 (pc := 173) rfl h0 dX11_readCloth_173 ?_
          refine pg_bipush (pc := 176) (v := 100) dX11_readCloth_176 (by decide) ?_
          refine pg_dup2_11 (pc := 178) dX11_readCloth_178 rfl rfl ?_
          refine pg_iald (pc := 179) h0.2.2.2.2.2.2.1 (by unfold vp_in; decide) dX11_readCloth_179 ?_
          refine pg_iconst (pc := 180) (v := 1) dX11_readCloth_180 (by decide) ?_
          refine pg_iadd (pc := 181) dX11_readCloth_181 ?_
          refine pg_iast (pc := 182) h0.2.2.2.2.2.2.1 (by unfold vp_in; decide) dX11_readCloth_182 ?_
          refine pg_named (fun N2 u2 => ?_)
          exact pg_vret (pc := 183) rfl dX11_readCloth_183 (k0 c0 x1 M1 w1 c1 x2 M2 w2 c2 c3 N1 u1 x3 M3 w3 x4 M4 w4 x5 M5 w5 x6 M6 w6 N2 u2)
        · skip
          exact pg_vret (pc := 65) rfl dX11_readCloth_65 (k1 c0 x1 M1 w1 c1 x2 M2 w2 c2 c3)
      · skip
        refine pg_aload_n (pc := 53) (i := 0) (j := 1) (x := 207) dX11_readCloth_53 rfl rfl ?_
        refine pg_iconst (pc := 54) (v := 3) dX11_readCloth_54 (by decide) ?_
        refine pg_callV (pc := 55) (As := [.int 3]) (st := []) okX11_wrong lkX11_183 rfl h0.1 rfl (Nat.le_refl _) (Nat.le_of_ble_eq_true rfl) (e6 c0 x1 M1 w1 c1 x2 M2 w2 c2) dX11_readCloth_55 (fun r7 M7 w7 => ?_)
        obtain ⟨rfl, w7⟩ := w7
        refine pg_aload_n (pc := 58) (i := 0) (j := 1) (x := 207) dX11_readCloth_58 rfl rfl ?_
        refine gfX11_177 (pc := 59) rfl h0 dX11_readCloth_59 ?_
        refine pg_if_le (pc := 62) (tgt := 66) dX11_readCloth_62 (by decide) (fun c3 => ?_) (fun c3 => ?_)
        · skip
          refine pg_aload_n (pc := 66) (i := 0) (j := 1) (x := 207) dX11_readCloth_66 rfl rfl ?_
          refine gfX11_101 (pc := 67) rfl h0 dX11_readCloth_67 ?_
          refine pg_aload_n (pc := 70) (i := 0) (j := 1) (x := 207) dX11_readCloth_70 rfl rfl ?_
          refine gfX11_202 (pc := 71) rfl h0 dX11_readCloth_71 ?_
          refine pg_aload_n (pc := 74) (i := 0) (j := 1) (x := 207) dX11_readCloth_74 rfl rfl ?_
          refine gfX11_30 (pc := 75) rfl h0 dX11_readCloth_75 ?_
          refine pg_aload_n (pc := 78) (i := 0) (j := 1) (x := 207) dX11_readCloth_78 rfl rfl ?_
          refine gfX11_174 (pc := 79) rfl h0 dX11_readCloth_79 ?_
          refine pg_lald (pc := 82) h0.2.2.2.2.1 (b6 c0 x1 M1 w1 c1 x2 M2 w2 c2 M7 w7 c3) dX11_readCloth_82 ?_
          refine pg_last (pc := 83) h0.2.2.2.2.2.2.2.2.2.2.1 (b7 c0 x1 M1 w1 c1 x2 M2 w2 c2 M7 w7 c3) dX11_readCloth_83 ?_
          refine pg_aload_n (pc := 84) (i := 0) (j := 1) (x := 207) dX11_readCloth_84 rfl rfl ?_
          refine pg_dup (pc := 85) dX11_readCloth_85 rfl ?_
          refine gfX11_202 (pc := 86) rfl h0 dX11_readCloth_86 ?_
          refine pg_iconst (pc := 89) (v := 1) dX11_readCloth_89 (by decide) ?_
          refine pg_iadd (pc := 90) dX11_readCloth_90 ?_
          refine pfX11_202 (pc := 91) rfl h0 dX11_readCloth_91 ?_
          refine pg_named (fun N3 u3 => ?_)
          refine pg_aload_n (pc := 94) (i := 0) (j := 1) (x := 207) dX11_readCloth_94 rfl rfl ?_
          refine pg_dup (pc := 95) dX11_readCloth_95 rfl ?_
          refine gfX11_174 (pc := 96) rfl h0 dX11_readCloth_96 ?_
          refine pg_iconst (pc := 99) (v := 1) dX11_readCloth_99 (by decide) ?_
          refine pg_iadd (pc := 100) dX11_readCloth_100 ?_
          refine pfX11_174 (pc := 101) rfl h0 dX11_readCloth_101 ?_
          refine pg_bipush (pc := 104) (v := 108) dX11_readCloth_104 (by decide) ?_
          refine pg_iconst (pc := 106) (v := 4) dX11_readCloth_106 (by decide) ?_
          refine pg_iload_n (pc := 107) (i := 1) (j := 0) (x := (M.1 213 (100 : Int32).toNatClampNeg)) dX11_readCloth_107 rfl rfl ?_
          refine pg_imul (pc := 108) dX11_readCloth_108 ?_
          refine pg_iadd (pc := 109) dX11_readCloth_109 ?_
          refine pg_istore_n (pc := 110) (i := 2) (ls' := [(2, .int (108 + (4 * (M.1 213 (100 : Int32).toNatClampNeg)))), (1, .int (M.1 213 (100 : Int32).toNatClampNeg)), (0, .ref 207)]) dX11_readCloth_110 rfl (by decide) rfl ?_
          refine pg_aload_n (pc := 111) (i := 0) (j := 2) (x := 207) dX11_readCloth_111 rfl rfl ?_
          refine gfX11_89 (pc := 112) rfl h0 dX11_readCloth_112 ?_
          refine pg_iload_n (pc := 115) (i := 2) (j := 0) (x := (108 + (4 * (M.1 213 (100 : Int32).toNatClampNeg)))) dX11_readCloth_115 rfl rfl ?_
          refine pg_aload_n (pc := 116) (i := 0) (j := 2) (x := 207) dX11_readCloth_116 rfl rfl ?_
          refine pg_bipush (pc := 117) (v := 16) dX11_readCloth_117 (by decide) ?_
          refine pg_iconst (pc := 119) (v := 4) dX11_readCloth_119 (by decide) ?_
          refine pg_callV (pc := 120) (As := [.int 16, .int 4]) (st := [.int (108 + (4 * (M.1 213 (100 : Int32).toNatClampNeg))), .ref 213]) okX11_takeOne lkX11_240 rfl h0.1 rfl (Nat.le_refl _) (Nat.le_of_ble_eq_true rfl) (e7 c0 x1 M1 w1 c1 x2 M2 w2 c2 M7 w7 c3 N3 u3) dX11_readCloth_120 (fun r8 M8 w8 => ?_)
          obtain ⟨x8, rfl, w8⟩ := w8
          refine pg_iast (pc := 123) h0.2.2.2.2.2.2.1 (b8 c0 x1 M1 w1 c1 x2 M2 w2 c2 M7 w7 c3 N3 u3 x8 M8 w8) dX11_readCloth_123 ?_
          refine pg_aload_n (pc := 124) (i := 0) (j := 2) (x := 207) dX11_readCloth_124 rfl rfl ?_
          refine gfX11_89 (pc := 125) rfl h0 dX11_readCloth_125 ?_
          refine pg_iload_n (pc := 128) (i := 2) (j := 0) (x := (108 + (4 * (M.1 213 (100 : Int32).toNatClampNeg)))) dX11_readCloth_128 rfl rfl ?_
          refine pg_iconst (pc := 129) (v := 1) dX11_readCloth_129 (by decide) ?_
          refine pg_iadd (pc := 130) dX11_readCloth_130 ?_
          refine pg_aload_n (pc := 131) (i := 0) (j := 2) (x := 207) dX11_readCloth_131 rfl rfl ?_
          refine pg_iconst (pc := 132) (v := 1) dX11_readCloth_132 (by decide) ?_
          refine pg_iconst (pc := 133) (v := 1) dX11_readCloth_133 (by decide) ?_
          refine pg_bipush (pc := 134) (v := 20) dX11_readCloth_134 (by decide) ?_
          refine pg_callV (pc := 136) (As := [.int 1, .int 1, .int 20]) (st := [.int ((108 + (4 * (M.1 213 (100 : Int32).toNatClampNeg))) + 1), .ref 213]) okX11_takeAfter lkX11_243 rfl h0.1 rfl (Nat.le_refl _) (Nat.le_of_ble_eq_true rfl) (e8 c0 x1 M1 w1 c1 x2 M2 w2 c2 M7 w7 c3 N3 u3 x8 M8 w8) dX11_readCloth_136 (fun r9 M9 w9 => ?_)
          obtain ⟨x9, rfl, w9⟩ := w9
          refine pg_iast (pc := 139) h0.2.2.2.2.2.2.1 (b9 c0 x1 M1 w1 c1 x2 M2 w2 c2 M7 w7 c3 N3 u3 x8 M8 w8 x9 M9 w9) dX11_readCloth_139 ?_
          refine pg_aload_n (pc := 140) (i := 0) (j := 2) (x := 207) dX11_readCloth_140 rfl rfl ?_
          refine gfX11_89 (pc := 141) rfl h0 dX11_readCloth_141 ?_
          refine pg_iload_n (pc := 144) (i := 2) (j := 0) (x := (108 + (4 * (M.1 213 (100 : Int32).toNatClampNeg)))) dX11_readCloth_144 rfl rfl ?_
          refine pg_iconst (pc := 145) (v := 2) dX11_readCloth_145 (by decide) ?_
          refine pg_iadd (pc := 146) dX11_readCloth_146 ?_
          refine pg_aload_n (pc := 147) (i := 0) (j := 2) (x := 207) dX11_readCloth_147 rfl rfl ?_
          refine pg_iconst (pc := 148) (v := 2) dX11_readCloth_148 (by decide) ?_
          refine pg_iconst (pc := 149) (v := 0) dX11_readCloth_149 (by decide) ?_
          refine pg_bipush (pc := 150) (v := 20) dX11_readCloth_150 (by decide) ?_
          refine pg_callV (pc := 152) (As := [.int 2, .int 0, .int 20]) (st := [.int ((108 + (4 * (M.1 213 (100 : Int32).toNatClampNeg))) + 2), .ref 213]) okX11_takeAfter lkX11_243 rfl h0.1 rfl (Nat.le_refl _) (Nat.le_of_ble_eq_true rfl) (e9 c0 x1 M1 w1 c1 x2 M2 w2 c2 M7 w7 c3 N3 u3 x8 M8 w8 x9 M9 w9) dX11_readCloth_152 (fun r10 M10 w10 => ?_)
          obtain ⟨x10, rfl, w10⟩ := w10
          refine pg_iast (pc := 155) h0.2.2.2.2.2.2.1 (b10 c0 x1 M1 w1 c1 x2 M2 w2 c2 M7 w7 c3 N3 u3 x8 M8 w8 x9 M9 w9 x10 M10 w10) dX11_readCloth_155 ?_
          refine pg_aload_n (pc := 156) (i := 0) (j := 2) (x := 207) dX11_readCloth_156 rfl rfl ?_
          refine gfX11_89 (pc := 157) rfl h0 dX11_readCloth_157 ?_
          refine pg_iload_n (pc := 160) (i := 2) (j := 0) (x := (108 + (4 * (M.1 213 (100 : Int32).toNatClampNeg)))) dX11_readCloth_160 rfl rfl ?_
          refine pg_iconst (pc := 161) (v := 3) dX11_readCloth_161 (by decide) ?_
          refine pg_iadd (pc := 162) dX11_readCloth_162 ?_
          refine pg_aload_n (pc := 163) (i := 0) (j := 2) (x := 207) dX11_readCloth_163 rfl rfl ?_
          refine pg_iconst (pc := 164) (v := 3) dX11_readCloth_164 (by decide) ?_
          refine pg_iconst (pc := 165) (v := 0) dX11_readCloth_165 (by decide) ?_
          refine pg_bipush (pc := 166) (v := 99) dX11_readCloth_166 (by decide) ?_
          refine pg_callV (pc := 168) (As := [.int 3, .int 0, .int 99]) (st := [.int ((108 + (4 * (M.1 213 (100 : Int32).toNatClampNeg))) + 3), .ref 213]) okX11_takeAfter lkX11_243 rfl h0.1 rfl (Nat.le_refl _) (Nat.le_of_ble_eq_true rfl) (e10 c0 x1 M1 w1 c1 x2 M2 w2 c2 M7 w7 c3 N3 u3 x8 M8 w8 x9 M9 w9 x10 M10 w10) dX11_readCloth_168 (fun r11 M11 w11 => ?_)
          obtain ⟨x11, rfl, w11⟩ := w11
          refine pg_iast (pc := 171) h0.2.2.2.2.2.2.1 (b11 c0 x1 M1 w1 c1 x2 M2 w2 c2 M7 w7 c3 N3 u3 x8 M8 w8 x9 M9 w9 x10 M10 w10 x11 M11 w11) dX11_readCloth_171 ?_
          refine pg_aload_n (pc := 172) (i := 0) (j := 2) (x := 207) dX11_readCloth_172 rfl rfl ?_
          refine gfX11_89 (pc := 173) rfl h0 dX11_readCloth_173 ?_
          refine pg_bipush (pc := 176) (v := 100) dX11_readCloth_176 (by decide) ?_
          refine pg_dup2_11 (pc := 178) dX11_readCloth_178 rfl rfl ?_
          refine pg_iald (pc := 179) h0.2.2.2.2.2.2.1 (by unfold vp_in; decide) dX11_readCloth_179 ?_
          refine pg_iconst (pc := 180) (v := 1) dX11_readCloth_180 (by decide) ?_
          refine pg_iadd (pc := 181) dX11_readCloth_181 ?_
          refine pg_iast (pc := 182) h0.2.2.2.2.2.2.1 (by unfold vp_in; decide) dX11_readCloth_182 ?_
          refine pg_named (fun N4 u4 => ?_)
          exact pg_vret (pc := 183) rfl dX11_readCloth_183 (k2 c0 x1 M1 w1 c1 x2 M2 w2 c2 M7 w7 c3 N3 u3 x8 M8 w8 x9 M9 w9 x10 M10 w10 x11 M11 w11 N4 u4)
        · skip
          exact pg_vret (pc := 65) rfl dX11_readCloth_65 (k3 c0 x1 M1 w1 c1 x2 M2 w2 c2 M7 w7 c3)
    · skip
      refine pg_aload_n (pc := 37) (i := 0) (j := 1) (x := 207) dX11_readCloth_37 rfl rfl ?_
      refine pg_iconst (pc := 38) (v := 1) dX11_readCloth_38 (by decide) ?_
      refine pg_callV (pc := 39) (As := [.int 1]) (st := []) okX11_wrong lkX11_183 rfl h0.1 rfl (Nat.le_refl _) (Nat.le_of_ble_eq_true rfl) (e11 c0 x1 M1 w1 c1) dX11_readCloth_39 (fun r12 M12 w12 => ?_)
      obtain ⟨rfl, w12⟩ := w12
      refine pg_goto (pc := 42) (tgt := 58) dX11_readCloth_42 (by decide) ?_
      refine pg_aload_n (pc := 58) (i := 0) (j := 1) (x := 207) dX11_readCloth_58 rfl rfl ?_
      refine gfX11_177 (pc := 59) rfl h0 dX11_readCloth_59 ?_
      refine pg_if_le (pc := 62) (tgt := 66) dX11_readCloth_62 (by decide) (fun c2 => ?_) (fun c2 => ?_)
      · skip
        refine pg_aload_n (pc := 66) (i := 0) (j := 1) (x := 207) dX11_readCloth_66 rfl rfl ?_
        refine gfX11_101 (pc := 67) rfl h0 dX11_readCloth_67 ?_
        refine pg_aload_n (pc := 70) (i := 0) (j := 1) (x := 207) dX11_readCloth_70 rfl rfl ?_
        refine gfX11_202 (pc := 71) rfl h0 dX11_readCloth_71 ?_
        refine pg_aload_n (pc := 74) (i := 0) (j := 1) (x := 207) dX11_readCloth_74 rfl rfl ?_
        refine gfX11_30 (pc := 75) rfl h0 dX11_readCloth_75 ?_
        refine pg_aload_n (pc := 78) (i := 0) (j := 1) (x := 207) dX11_readCloth_78 rfl rfl ?_
        refine gfX11_174 (pc := 79) rfl h0 dX11_readCloth_79 ?_
        refine pg_lald (pc := 82) h0.2.2.2.2.1 (b12 c0 x1 M1 w1 c1 M12 w12 c2) dX11_readCloth_82 ?_
        refine pg_last (pc := 83) h0.2.2.2.2.2.2.2.2.2.2.1 (b13 c0 x1 M1 w1 c1 M12 w12 c2) dX11_readCloth_83 ?_
        refine pg_aload_n (pc := 84) (i := 0) (j := 1) (x := 207) dX11_readCloth_84 rfl rfl ?_
        refine pg_dup (pc := 85) dX11_readCloth_85 rfl ?_
        refine gfX11_202 (pc := 86) rfl h0 dX11_readCloth_86 ?_
        refine pg_iconst (pc := 89) (v := 1) dX11_readCloth_89 (by decide) ?_
        refine pg_iadd (pc := 90) dX11_readCloth_90 ?_
        refine pfX11_202 (pc := 91) rfl h0 dX11_readCloth_91 ?_
        refine pg_named (fun N5 u5 => ?_)
        refine pg_aload_n (pc := 94) (i := 0) (j := 1) (x := 207) dX11_readCloth_94 rfl rfl ?_
        refine pg_dup (pc := 95) dX11_readCloth_95 rfl ?_
        refine gfX11_174 (pc := 96) rfl h0 dX11_readCloth_96 ?_
        refine pg_iconst (pc := 99) (v := 1) dX11_readCloth_99 (by decide) ?_
        refine pg_iadd (pc := 100) dX11_readCloth_100 ?_
        refine pfX11_174 (pc := 101) rfl h0 dX11_readCloth_101 ?_
        refine pg_bipush (pc := 104) (v := 108) dX11_readCloth_104 (by decide) ?_
        refine pg_iconst (pc := 106) (v := 4) dX11_readCloth_106 (by decide) ?_
        refine pg_iload_n (pc := 107) (i := 1) (j := 0) (x := (M.1 213 (100 : Int32).toNatClampNeg)) dX11_readCloth_107 rfl rfl ?_
        refine pg_imul (pc := 108) dX11_readCloth_108 ?_
        refine pg_iadd (pc := 109) dX11_readCloth_109 ?_
        refine pg_istore_n (pc := 110) (i := 2) (ls' := [(2, .int (108 + (4 * (M.1 213 (100 : Int32).toNatClampNeg)))), (1, .int (M.1 213 (100 : Int32).toNatClampNeg)), (0, .ref 207)]) dX11_readCloth_110 rfl (by decide) rfl ?_
        refine pg_aload_n (pc := 111) (i := 0) (j := 2) (x := 207) dX11_readCloth_111 rfl rfl ?_
        refine gfX11_89 (pc := 112) rfl h0 dX11_readCloth_112 ?_
        refine pg_iload_n (pc := 115) (i := 2) (j := 0) (x := (108 + (4 * (M.1 213 (100 : Int32).toNatClampNeg)))) dX11_readCloth_115 rfl rfl ?_
        refine pg_aload_n (pc := 116) (i := 0) (j := 2) (x := 207) dX11_readCloth_116 rfl rfl ?_
        refine pg_bipush (pc := 117) (v := 16) dX11_readCloth_117 (by decide) ?_
        refine pg_iconst (pc := 119) (v := 4) dX11_readCloth_119 (by decide) ?_
        refine pg_callV (pc := 120) (As := [.int 16, .int 4]) (st := [.int (108 + (4 * (M.1 213 (100 : Int32).toNatClampNeg))), .ref 213]) okX11_takeOne lkX11_240 rfl h0.1 rfl (Nat.le_refl _) (Nat.le_of_ble_eq_true rfl) (e12 c0 x1 M1 w1 c1 M12 w12 c2 N5 u5) dX11_readCloth_120 (fun r13 M13 w13 => ?_)
        obtain ⟨x13, rfl, w13⟩ := w13
        refine pg_iast (pc := 123) h0.2.2.2.2.2.2.1 (b14 c0 x1 M1 w1 c1 M12 w12 c2 N5 u5 x13 M13 w13) dX11_readCloth_123 ?_
        refine pg_aload_n (pc := 124) (i := 0) (j := 2) (x := 207) dX11_readCloth_124 rfl rfl ?_
        refine gfX11_89 (pc := 125) rfl h0 dX11_readCloth_125 ?_
        refine pg_iload_n (pc := 128) (i := 2) (j := 0) (x := (108 + (4 * (M.1 213 (100 : Int32).toNatClampNeg)))) dX11_readCloth_128 rfl rfl ?_
        refine pg_iconst (pc := 129) (v := 1) dX11_readCloth_129 (by decide) ?_
        refine pg_iadd (pc := 130) dX11_readCloth_130 ?_
        refine pg_aload_n (pc := 131) (i := 0) (j := 2) (x := 207) dX11_readCloth_131 rfl rfl ?_
        refine pg_iconst (pc := 132) (v := 1) dX11_readCloth_132 (by decide) ?_
        refine pg_iconst (pc := 133) (v := 1) dX11_readCloth_133 (by decide) ?_
        refine pg_bipush (pc := 134) (v := 20) dX11_readCloth_134 (by decide) ?_
        refine pg_callV (pc := 136) (As := [.int 1, .int 1, .int 20]) (st := [.int ((108 + (4 * (M.1 213 (100 : Int32).toNatClampNeg))) + 1), .ref 213]) okX11_takeAfter lkX11_243 rfl h0.1 rfl (Nat.le_refl _) (Nat.le_of_ble_eq_true rfl) (e13 c0 x1 M1 w1 c1 M12 w12 c2 N5 u5 x13 M13 w13) dX11_readCloth_136 (fun r14 M14 w14 => ?_)
        obtain ⟨x14, rfl, w14⟩ := w14
        refine pg_iast (pc := 139) h0.2.2.2.2.2.2.1 (b15 c0 x1 M1 w1 c1 M12 w12 c2 N5 u5 x13 M13 w13 x14 M14 w14) dX11_readCloth_139 ?_
        refine pg_aload_n (pc := 140) (i := 0) (j := 2) (x := 207) dX11_readCloth_140 rfl rfl ?_
        refine gfX11_89 (pc := 141) rfl h0 dX11_readCloth_141 ?_
        refine pg_iload_n (pc := 144) (i := 2) (j := 0) (x := (108 + (4 * (M.1 213 (100 : Int32).toNatClampNeg)))) dX11_readCloth_144 rfl rfl ?_
        refine pg_iconst (pc := 145) (v := 2) dX11_readCloth_145 (by decide) ?_
        refine pg_iadd (pc := 146) dX11_readCloth_146 ?_
        refine pg_aload_n (pc := 147) (i := 0) (j := 2) (x := 207) dX11_readCloth_147 rfl rfl ?_
        refine pg_iconst (pc := 148) (v := 2) dX11_readCloth_148 (by decide) ?_
        refine pg_iconst (pc := 149) (v := 0) dX11_readCloth_149 (by decide) ?_
        refine pg_bipush (pc := 150) (v := 20) dX11_readCloth_150 (by decide) ?_
        refine pg_callV (pc := 152) (As := [.int 2, .int 0, .int 20]) (st := [.int ((108 + (4 * (M.1 213 (100 : Int32).toNatClampNeg))) + 2), .ref 213]) okX11_takeAfter lkX11_243 rfl h0.1 rfl (Nat.le_refl _) (Nat.le_of_ble_eq_true rfl) (e14 c0 x1 M1 w1 c1 M12 w12 c2 N5 u5 x13 M13 w13 x14 M14 w14) dX11_readCloth_152 (fun r15 M15 w15 => ?_)
        obtain ⟨x15, rfl, w15⟩ := w15
        refine pg_iast (pc := 155) h0.2.2.2.2.2.2.1 (b16 c0 x1 M1 w1 c1 M12 w12 c2 N5 u5 x13 M13 w13 x14 M14 w14 x15 M15 w15) dX11_readCloth_155 ?_
        refine pg_aload_n (pc := 156) (i := 0) (j := 2) (x := 207) dX11_readCloth_156 rfl rfl ?_
        refine gfX11_89 (pc := 157) rfl h0 dX11_readCloth_157 ?_
        refine pg_iload_n (pc := 160) (i := 2) (j := 0) (x := (108 + (4 * (M.1 213 (100 : Int32).toNatClampNeg)))) dX11_readCloth_160 rfl rfl ?_
        refine pg_iconst (pc := 161) (v := 3) dX11_readCloth_161 (by decide) ?_
        refine pg_iadd (pc := 162) dX11_readCloth_162 ?_
        refine pg_aload_n (pc := 163) (i := 0) (j := 2) (x := 207) dX11_readCloth_163 rfl rfl ?_
        refine pg_iconst (pc := 164) (v := 3) dX11_readCloth_164 (by decide) ?_
        refine pg_iconst (pc := 165) (v := 0) dX11_readCloth_165 (by decide) ?_
        refine pg_bipush (pc := 166) (v := 99) dX11_readCloth_166 (by decide) ?_
        refine pg_callV (pc := 168) (As := [.int 3, .int 0, .int 99]) (st := [.int ((108 + (4 * (M.1 213 (100 : Int32).toNatClampNeg))) + 3), .ref 213]) okX11_takeAfter lkX11_243 rfl h0.1 rfl (Nat.le_refl _) (Nat.le_of_ble_eq_true rfl) (e15 c0 x1 M1 w1 c1 M12 w12 c2 N5 u5 x13 M13 w13 x14 M14 w14 x15 M15 w15) dX11_readCloth_168 (fun r16 M16 w16 => ?_)
        obtain ⟨x16, rfl, w16⟩ := w16
        refine pg_iast (pc := 171) h0.2.2.2.2.2.2.1 (b17 c0 x1 M1 w1 c1 M12 w12 c2 N5 u5 x13 M13 w13 x14 M14 w14 x15 M15 w15 x16 M16 w16) dX11_readCloth_171 ?_
        refine pg_aload_n (pc := 172) (i := 0) (j := 2) (x := 207) dX11_readCloth_172 rfl rfl ?_
        refine gfX11_89 (pc := 173) rfl h0 dX11_readCloth_173 ?_
        refine pg_bipush (pc := 176) (v := 100) dX11_readCloth_176 (by decide) ?_
        refine pg_dup2_11 (pc := 178) dX11_readCloth_178 rfl rfl ?_
        refine pg_iald (pc := 179) h0.2.2.2.2.2.2.1 (by unfold vp_in; decide) dX11_readCloth_179 ?_
        refine pg_iconst (pc := 180) (v := 1) dX11_readCloth_180 (by decide) ?_
        refine pg_iadd (pc := 181) dX11_readCloth_181 ?_
        refine pg_iast (pc := 182) h0.2.2.2.2.2.2.1 (by unfold vp_in; decide) dX11_readCloth_182 ?_
        refine pg_named (fun N6 u6 => ?_)
        exact pg_vret (pc := 183) rfl dX11_readCloth_183 (k4 c0 x1 M1 w1 c1 M12 w12 c2 N5 u5 x13 M13 w13 x14 M14 w14 x15 M15 w15 x16 M16 w16 N6 u6)
      · skip
        exact pg_vret (pc := 65) rfl dX11_readCloth_65 (k5 c0 x1 M1 w1 c1 M12 w12 c2)
  · skip
    refine pg_aload_n (pc := 14) (i := 0) (j := 1) (x := 207) dX11_readCloth_14 rfl rfl ?_
    refine pg_iconst (pc := 15) (v := 5) dX11_readCloth_15 (by decide) ?_
    refine pg_callV (pc := 16) (As := [.int 5]) (st := []) okX11_wrong lkX11_183 rfl h0.1 rfl (Nat.le_refl _) (Nat.le_of_ble_eq_true rfl) (e16 c0) dX11_readCloth_16 (fun r17 M17 w17 => ?_)
    obtain ⟨rfl, w17⟩ := w17
    exact pg_vret (pc := 19) rfl dX11_readCloth_19 (k6 c0 M17 w17)
theorem oX11_readCloth {d : Nat}  (h : pg_At S Λ YX11_readCloth d 0 [(0, .ref 207)] [] M P) : pg_Ev S Λ YX11_readCloth d [.ref 207] M P := pg_Ev.of (by decide) (by first | decide | exact Nat.le_of_ble_eq_true rfl) h
theorem sX11_readClash_0  {Q0 : Int32 → pg_M → Prop} {Q1 : Int32 → pg_M → Prop} {Q2 : pg_M → Prop} {Q3 : pg_M → Prop}
    (h0 : pg_isX11 Λ)
    (e0 : pg_Ev S Λ YX11_takeTold d [.ref 207, .int 1] (pg_si M 207 7 ((M.1 207 7) + 1)) (fun r M' => ∃ x, r = some (.int x) ∧ Q0 x M'))
    (e1 : ∀ x1 M1, Q0 x1 M1 → pg_Ev S Λ YX11_toldHere d [.ref 207, .int 1] M1 (fun r M' => ∃ x, r = some (.int x) ∧ Q1 x M'))
    (k0 : ∀ x1 M1, Q0 x1 M1 → ∀ x2 M2, Q1 x2 M2 → (¬ (M2.1 207 8) = 0) → (¬ (M2.1 207 8) = 0) → P none M2)
    (b0 : ∀ x1 M1, Q0 x1 M1 → ∀ x2 M2, Q1 x2 M2 → (¬ (M2.1 207 8) = 0) → ((M2.1 207 8) = 0) → vp_in ((132 + (6 * x1)) + x2) 200)
    (b1 : ∀ x1 M1, Q0 x1 M1 → ∀ x2 M2, Q1 x2 M2 → (¬ (M2.1 207 8) = 0) → ((M2.1 207 8) = 0) → vp_in ((132 + (6 * x2)) + x1) 200)
    (k1 : ∀ x1 M1, Q0 x1 M1 → ∀ x2 M2, Q1 x2 M2 → (¬ (M2.1 207 8) = 0) → ((M2.1 207 8) = 0) → ∀ N1, N1 = pg_si (pg_si (pg_si M2 207 7 ((M2.1 207 7) + 1)) 213 ((132 + (6 * x1)) + x2).toNatClampNeg 1) 213 ((132 + (6 * x2)) + x1).toNatClampNeg 1 → P none (pg_si N1 213 (105 : Int32).toNatClampNeg ((N1.1 213 (105 : Int32).toNatClampNeg) + 1)))
    (e2 : ∀ x1 M1, Q0 x1 M1 → ∀ x2 M2, Q1 x2 M2 → ((M2.1 207 8) = 0) → (x1 = x2) → pg_Ev S Λ YX11_wrong d [.ref 207, .int 3] M2 (fun r M' => r = none ∧ Q2 M'))
    (k2 : ∀ x1 M1, Q0 x1 M1 → ∀ x2 M2, Q1 x2 M2 → ((M2.1 207 8) = 0) → (x1 = x2) → ∀ M3, Q2 M3 → (¬ (M3.1 207 8) = 0) → P none M3)
    (b2 : ∀ x1 M1, Q0 x1 M1 → ∀ x2 M2, Q1 x2 M2 → ((M2.1 207 8) = 0) → (x1 = x2) → ∀ M3, Q2 M3 → ((M3.1 207 8) = 0) → vp_in ((132 + (6 * x1)) + x2) 200)
    (b3 : ∀ x1 M1, Q0 x1 M1 → ∀ x2 M2, Q1 x2 M2 → ((M2.1 207 8) = 0) → (x1 = x2) → ∀ M3, Q2 M3 → ((M3.1 207 8) = 0) → vp_in ((132 + (6 * x2)) + x1) 200)
    (k3 : ∀ x1 M1, Q0 x1 M1 → ∀ x2 M2, Q1 x2 M2 → ((M2.1 207 8) = 0) → (x1 = x2) → ∀ M3, Q2 M3 → ((M3.1 207 8) = 0) → ∀ N2, N2 = pg_si (pg_si (pg_si M3 207 7 ((M3.1 207 7) + 1)) 213 ((132 + (6 * x1)) + x2).toNatClampNeg 1) 213 ((132 + (6 * x2)) + x1).toNatClampNeg 1 → P none (pg_si N2 213 (105 : Int32).toNatClampNeg ((N2.1 213 (105 : Int32).toNatClampNeg) + 1)))
    (b4 : ∀ x1 M1, Q0 x1 M1 → ∀ x2 M2, Q1 x2 M2 → ((M2.1 207 8) = 0) → (¬ x1 = x2) → vp_in ((132 + (6 * x1)) + x2) 200)
    (k4 : ∀ x1 M1, Q0 x1 M1 → ∀ x2 M2, Q1 x2 M2 → ((M2.1 207 8) = 0) → (¬ x1 = x2) → (¬ (M2.1 213 ((132 + (6 * x1)) + x2).toNatClampNeg) = 1) → (¬ (M2.1 207 8) = 0) → P none M2)
    (b5 : ∀ x1 M1, Q0 x1 M1 → ∀ x2 M2, Q1 x2 M2 → ((M2.1 207 8) = 0) → (¬ x1 = x2) → (¬ (M2.1 213 ((132 + (6 * x1)) + x2).toNatClampNeg) = 1) → ((M2.1 207 8) = 0) → vp_in ((132 + (6 * x2)) + x1) 200)
    (k5 : ∀ x1 M1, Q0 x1 M1 → ∀ x2 M2, Q1 x2 M2 → ((M2.1 207 8) = 0) → (¬ x1 = x2) → (¬ (M2.1 213 ((132 + (6 * x1)) + x2).toNatClampNeg) = 1) → ((M2.1 207 8) = 0) → ∀ N3, N3 = pg_si (pg_si (pg_si M2 207 7 ((M2.1 207 7) + 1)) 213 ((132 + (6 * x1)) + x2).toNatClampNeg 1) 213 ((132 + (6 * x2)) + x1).toNatClampNeg 1 → P none (pg_si N3 213 (105 : Int32).toNatClampNeg ((N3.1 213 (105 : Int32).toNatClampNeg) + 1)))
    (e3 : ∀ x1 M1, Q0 x1 M1 → ∀ x2 M2, Q1 x2 M2 → ((M2.1 207 8) = 0) → (¬ x1 = x2) → ((M2.1 213 ((132 + (6 * x1)) + x2).toNatClampNeg) = 1) → pg_Ev S Λ YX11_wrong d [.ref 207, .int 3] M2 (fun r M' => r = none ∧ Q3 M'))
    (k6 : ∀ x1 M1, Q0 x1 M1 → ∀ x2 M2, Q1 x2 M2 → ((M2.1 207 8) = 0) → (¬ x1 = x2) → ((M2.1 213 ((132 + (6 * x1)) + x2).toNatClampNeg) = 1) → ∀ M4, Q3 M4 → (¬ (M4.1 207 8) = 0) → P none M4)
    (b6 : ∀ x1 M1, Q0 x1 M1 → ∀ x2 M2, Q1 x2 M2 → ((M2.1 207 8) = 0) → (¬ x1 = x2) → ((M2.1 213 ((132 + (6 * x1)) + x2).toNatClampNeg) = 1) → ∀ M4, Q3 M4 → ((M4.1 207 8) = 0) → vp_in ((132 + (6 * x2)) + x1) 200)
    (k7 : ∀ x1 M1, Q0 x1 M1 → ∀ x2 M2, Q1 x2 M2 → ((M2.1 207 8) = 0) → (¬ x1 = x2) → ((M2.1 213 ((132 + (6 * x1)) + x2).toNatClampNeg) = 1) → ∀ M4, Q3 M4 → ((M4.1 207 8) = 0) → ∀ N4, N4 = pg_si (pg_si (pg_si M4 207 7 ((M4.1 207 7) + 1)) 213 ((132 + (6 * x1)) + x2).toNatClampNeg 1) 213 ((132 + (6 * x2)) + x1).toNatClampNeg 1 → P none (pg_si N4 213 (105 : Int32).toNatClampNeg ((N4.1 213 (105 : Int32).toNatClampNeg) + 1))) :
    pg_At S Λ YX11_readClash (d + 1) 0 [(0, .ref 207)] [] M P := by
  refine pg_aload_n (pc := 0) (i := 0) (j := 0) (x := 207) dX11_readClash_0 rfl rfl ?_
  refine pg_dup (pc := 1) dX11_readClash_1 rfl ?_
  refine gfX11_174 (pc := 2) rfl h0 dX11_readClash_2 ?_
  refine pg_iconst (pc := 5) (v := 1) dX11_readClash_5 (by decide) ?_
  refine pg_iadd (pc := 6) dX11_readClash_6 ?_
  refine pfX11_174 (pc := 7) rfl h0 dX11_readClash_7 ?_
  refine pg_aload_n (pc := 10) (i := 0) (j := 0) (x := 207) dX11_readClash_10 rfl rfl ?_
  refine pg_iconst (pc := 11) (v := 1) dX11_readClash_11 (by decide) ?_
  refine pg_callV (pc := 12) (As := [.int 1]) (st := []) okX11_takeTold lkX11_247 rfl h0.1 rfl (Nat.le_refl _) (Nat.le_of_ble_eq_true rfl) e0 dX11_readClash_12 (fun r1 M1 w1 => ?_)
  obtain ⟨x1, rfl, w1⟩ := w1
  refine pg_istore_n (pc := 15) (i := 1) (ls' := [(1, .int x1), (0, .ref 207)]) dX11_readClash_15 rfl (by decide) rfl ?_
  refine pg_aload_n (pc := 16) (i := 0) (j := 1) (x := 207) dX11_readClash_16 rfl rfl ?_
  refine pg_iconst (pc := 17) (v := 1) dX11_readClash_17 (by decide) ?_
  refine pg_callV (pc := 18) (As := [.int 1]) (st := []) okX11_toldHere lkX11_216 rfl h0.1 rfl (Nat.le_refl _) (Nat.le_of_ble_eq_true rfl) (e1 x1 M1 w1) dX11_readClash_18 (fun r2 M2 w2 => ?_)
  obtain ⟨x2, rfl, w2⟩ := w2
  refine pg_istore_n (pc := 21) (i := 2) (ls' := [(2, .int x2), (1, .int x1), (0, .ref 207)]) dX11_readClash_21 rfl (by decide) rfl ?_
  refine pg_aload_n (pc := 22) (i := 0) (j := 2) (x := 207) dX11_readClash_22 rfl rfl ?_
  refine gfX11_177 (pc := 23) rfl h0 dX11_readClash_23 ?_
  refine pg_if_ne (pc := 26) (tgt := 58) dX11_readClash_26 (by decide) (fun c0 => ?_) (fun c0 => ?_)
  · skip
    refine pg_aload_n (pc := 58) (i := 0) (j := 2) (x := 207) dX11_readClash_58 rfl rfl ?_
    refine gfX11_177 (pc := 59) rfl h0 dX11_readClash_59 ?_
    refine pg_if_ne (pc := 62) (tgt := 118) dX11_readClash_62 (by decide) (fun c1 => ?_) (fun c1 => ?_)
    · skip
      exact pg_vret (pc := 118) rfl dX11_readClash_118 (k0 x1 M1 w1 x2 M2 w2 c0 c1)
    · skip
      refine pg_aload_n (pc := 65) (i := 0) (j := 2) (x := 207) dX11_readClash_65 rfl rfl ?_
      refine pg_dup (pc := 66) dX11_readClash_66 rfl ?_
      refine gfX11_174 (pc := 67) rfl h0 dX11_readClash_67 ?_
      refine pg_iconst (pc := 70) (v := 1) dX11_readClash_70 (by decide) ?_
      refine pg_iadd (pc := 71) dX11_readClash_71 ?_
      refine pfX11_174 (pc := 72) rfl h0 dX11_readClash_72 ?_
      refine pg_aload_n (pc := 75) (i := 0) (j := 2) (x := 207) dX11_readClash_75 rfl rfl ?_
      refine gfX11_89 (pc := 76) rfl h0 dX11_readClash_76 ?_
      refine pg_sipush (pc := 79) (v := 132) dX11_readClash_79 (by decide) ?_
      refine pg_bipush (pc := 82) (v := 6) dX11_readClash_82 (by decide) ?_
      refine pg_iload_n (pc := 84) (i := 1) (j := 1) (x := x1) dX11_readClash_84 rfl rfl ?_
      refine pg_imul (pc := 85) dX11_readClash_85 ?_
      refine pg_iadd (pc := 86) dX11_readClash_86 ?_
      refine pg_iload_n (pc := 87) (i := 2) (j := 0) (x := x2) dX11_readClash_87 rfl rfl ?_
      refine pg_iadd (pc := 88) dX11_readClash_88 ?_
      refine pg_iconst (pc := 89) (v := 1) dX11_readClash_89 (by decide) ?_
      refine pg_iast (pc := 90) h0.2.2.2.2.2.2.1 (b0 x1 M1 w1 x2 M2 w2 c0 c1) dX11_readClash_90 ?_
      refine pg_aload_n (pc := 91) (i := 0) (j := 2) (x := 207) dX11_readClash_91 rfl rfl ?_
      refine gfX11_89 (pc := 92) rfl h0 dX11_readClash_92 ?_
      refine pg_sipush (pc := 95) (v := 132) dX11_readClash_95 (by decide) ?_
      refine pg_bipush (pc := 98) (v := 6) dX11_readClash_98 (by decide) ?_
      refine pg_iload_n (pc := 100) (i := 2) (j := 0) (x := x2) dX11_readClash_100 rfl rfl ?_
      refine pg_imul (pc := 101) dX11_readClash_101 ?_
      refine pg_iadd (pc := 102) dX11_readClash_102 ?_
      refine pg_iload_n (pc := 103) (i := 1) (j := 1) (x := x1) dX11_readClash_103 rfl rfl ?_
      refine pg_iadd (pc := 104) dX11_readClash_104 ?_
      refine pg_iconst (pc := 105) (v := 1) dX11_readClash_105 (by decide) ?_
      refine pg_iast (pc := 106) h0.2.2.2.2.2.2.1 (b1 x1 M1 w1 x2 M2 w2 c0 c1) dX11_readClash_106 ?_
      refine pg_named (fun N1 u1 => ?_)
      refine pg_aload_n (pc := 107) (i := 0) (j := 2) (x := 207) dX11_readClash_107 rfl rfl ?_
      refine gfX11_89 (pc := 108) rfl h0 dX11_readClash_108 ?_
      refine pg_bipush (pc := 111) (v := 105) dX11_readClash_111 (by decide) ?_
      refine pg_dup2_11 (pc := 113) dX11_readClash_113 rfl rfl ?_
      refine pg_iald (pc := 114) h0.2.2.2.2.2.2.1 (by unfold vp_in; decide) dX11_readClash_114 ?_
      refine pg_iconst (pc := 115) (v := 1) dX11_readClash_115 (by decide) ?_
      refine pg_iadd (pc := 116) dX11_readClash_116 ?_
      refine pg_iast (pc := 117) h0.2.2.2.2.2.2.1 (by unfold vp_in; decide) dX11_readClash_117 ?_
      exact pg_vret (pc := 118) rfl dX11_readClash_118 (k1 x1 M1 w1 x2 M2 w2 c0 c1 N1 u1)
  · skip
    refine pg_iload_n (pc := 29) (i := 1) (j := 1) (x := x1) dX11_readClash_29 rfl rfl ?_
    refine pg_iload_n (pc := 30) (i := 2) (j := 0) (x := x2) dX11_readClash_30 rfl rfl ?_
    refine pg_icmp_eq (pc := 31) (tgt := 53) dX11_readClash_31 (by decide) (fun c1 => ?_) (fun c1 => ?_)
    · skip
      refine pg_aload_n (pc := 53) (i := 0) (j := 2) (x := 207) dX11_readClash_53 rfl rfl ?_
      refine pg_iconst (pc := 54) (v := 3) dX11_readClash_54 (by decide) ?_
      refine pg_callV (pc := 55) (As := [.int 3]) (st := []) okX11_wrong lkX11_183 rfl h0.1 rfl (Nat.le_refl _) (Nat.le_of_ble_eq_true rfl) (e2 x1 M1 w1 x2 M2 w2 c0 c1) dX11_readClash_55 (fun r3 M3 w3 => ?_)
      obtain ⟨rfl, w3⟩ := w3
      refine pg_aload_n (pc := 58) (i := 0) (j := 2) (x := 207) dX11_readClash_58 rfl rfl ?_
      refine gfX11_177 (pc := 59) rfl h0 dX11_readClash_59 ?_
      refine pg_if_ne (pc := 62) (tgt := 118) dX11_readClash_62 (by decide) (fun c2 => ?_) (fun c2 => ?_)
      · skip
        exact pg_vret (pc := 118) rfl dX11_readClash_118 (k2 x1 M1 w1 x2 M2 w2 c0 c1 M3 w3 c2)
      · skip
        refine pg_aload_n (pc := 65) (i := 0) (j := 2) (x := 207) dX11_readClash_65 rfl rfl ?_
        refine pg_dup (pc := 66) dX11_readClash_66 rfl ?_
        refine gfX11_174 (pc := 67) rfl h0 dX11_readClash_67 ?_
        refine pg_iconst (pc := 70) (v := 1) dX11_readClash_70 (by decide) ?_
        refine pg_iadd (pc := 71) dX11_readClash_71 ?_
        refine pfX11_174 (pc := 72) rfl h0 dX11_readClash_72 ?_
        refine pg_aload_n (pc := 75) (i := 0) (j := 2) (x := 207) dX11_readClash_75 rfl rfl ?_
        refine gfX11_89 (pc := 76) rfl h0 dX11_readClash_76 ?_
        refine pg_sipush (pc := 79) (v := 132) dX11_readClash_79 (by decide) ?_
        refine pg_bipush (pc := 82) (v := 6) dX11_readClash_82 (by decide) ?_
        refine pg_iload_n (pc := 84) (i := 1) (j := 1) (x := x1) dX11_readClash_84 rfl rfl ?_
        refine pg_imul (pc := 85) dX11_readClash_85 ?_
        refine pg_iadd (pc := 86) dX11_readClash_86 ?_
        refine pg_iload_n (pc := 87) (i := 2) (j := 0) (x := x2) dX11_readClash_87 rfl rfl ?_
        refine pg_iadd (pc := 88) dX11_readClash_88 ?_
        refine pg_iconst (pc := 89) (v := 1) dX11_readClash_89 (by decide) ?_
        refine pg_iast (pc := 90) h0.2.2.2.2.2.2.1 (b2 x1 M1 w1 x2 M2 w2 c0 c1 M3 w3 c2) dX11_readClash_90 ?_
        refine pg_aload_n (pc := 91) (i := 0) (j := 2) (x := 207) dX11_readClash_91 rfl rfl ?_
        refine gfX11_89 (pc := 92) rfl h0 dX11_readClash_92 ?_
        refine pg_sipush (pc := 95) (v := 132) dX11_readClash_95 (by decide) ?_
        refine pg_bipush (pc := 98) (v := 6) dX11_readClash_98 (by decide) ?_
        refine pg_iload_n (pc := 100) (i := 2) (j := 0) (x := x2) dX11_readClash_100 rfl rfl ?_
        refine pg_imul (pc := 101) dX11_readClash_101 ?_
        refine pg_iadd (pc := 102) dX11_readClash_102 ?_
        refine pg_iload_n (pc := 103) (i := 1) (j := 1) (x := x1) dX11_readClash_103 rfl rfl ?_
        refine pg_iadd (pc := 104) dX11_readClash_104 ?_
        refine pg_iconst (pc := 105) (v := 1) dX11_readClash_105 (by decide) ?_
        refine pg_iast (pc := 106) h0.2.2.2.2.2.2.1 (b3 x1 M1 w1 x2 M2 w2 c0 c1 M3 w3 c2) dX11_readClash_106 ?_
        refine pg_named (fun N2 u2 => ?_)
        refine pg_aload_n (pc := 107) (i := 0) (j := 2) (x := 207) dX11_readClash_107 rfl rfl ?_
        refine gfX11_89 (pc := 108) rfl h0 dX11_readClash_108 ?_
        refine pg_bipush (pc := 111) (v := 105) dX11_readClash_111 (by decide) ?_
        refine pg_dup2_11 (pc := 113) dX11_readClash_113 rfl rfl ?_
        refine pg_iald (pc := 114) h0.2.2.2.2.2.2.1 (by unfold vp_in; decide) dX11_readClash_114 ?_
        refine pg_iconst (pc := 115) (v := 1) dX11_readClash_115 (by decide) ?_
        refine pg_iadd (pc := 116) dX11_readClash_116 ?_
        refine pg_iast (pc := 117) h0.2.2.2.2.2.2.1 (by unfold vp_in; decide) dX11_readClash_117 ?_
        exact pg_vret (pc := 118) rfl dX11_readClash_118 (k3 x1 M1 w1 x2 M2 w2 c0 c1 M3 w3 c2 N2 u2)
    · skip
      refine pg_aload_n (pc := 34) (i := 0) (j := 2) (x := 207) dX11_readClash_34 rfl rfl ?_
      refine gfX11_89 (pc := 35) rfl h0 dX11_readClash_35 ?_
      refine pg_sipush (pc := 38) (v := 132) dX11_readClash_38 (by decide) ?_
      refine pg_bipush (pc := 41) (v := 6) dX11_readClash_41 (by decide) ?_
      refine pg_iload_n (pc := 43) (i := 1) (j := 1) (x := x1) dX11_readClash_43 rfl rfl ?_
      refine pg_imul (pc := 44) dX11_readClash_44 ?_
      refine pg_iadd (pc := 45) dX11_readClash_45 ?_
      refine pg_iload_n (pc := 46) (i := 2) (j := 0) (x := x2) dX11_readClash_46 rfl rfl ?_
      refine pg_iadd (pc := 47) dX11_readClash_47 ?_
      refine pg_iald (pc := 48) h0.2.2.2.2.2.2.1 (b4 x1 M1 w1 x2 M2 w2 c0 c1) dX11_readClash_48 ?_
      refine pg_iconst (pc := 49) (v := 1) dX11_readClash_49 (by decide) ?_
      refine pg_icmp_ne (pc := 50) (tgt := 58) dX11_readClash_50 (by decide) (fun c2 => ?_) (fun c2 => ?_)
      · skip
        refine pg_aload_n (pc := 58) (i := 0) (j := 2) (x := 207) dX11_readClash_58 rfl rfl ?_
        refine gfX11_177 (pc := 59) rfl h0 dX11_readClash_59 ?_
        refine pg_if_ne (pc := 62) (tgt := 118) dX11_readClash_62 (by decide) (fun c3 => ?_) (fun c3 => ?_)
        · skip
          exact pg_vret (pc := 118) rfl dX11_readClash_118 (k4 x1 M1 w1 x2 M2 w2 c0 c1 c2 c3)
        · skip
          refine pg_aload_n (pc := 65) (i := 0) (j := 2) (x := 207) dX11_readClash_65 rfl rfl ?_
          refine pg_dup (pc := 66) dX11_readClash_66 rfl ?_
          refine gfX11_174 (pc := 67) rfl h0 dX11_readClash_67 ?_
          refine pg_iconst (pc := 70) (v := 1) dX11_readClash_70 (by decide) ?_
          refine pg_iadd (pc := 71) dX11_readClash_71 ?_
          refine pfX11_174 (pc := 72) rfl h0 dX11_readClash_72 ?_
          refine pg_aload_n (pc := 75) (i := 0) (j := 2) (x := 207) dX11_readClash_75 rfl rfl ?_
          refine gfX11_89 (pc := 76) rfl h0 dX11_readClash_76 ?_
          refine pg_sipush (pc := 79) (v := 132) dX11_readClash_79 (by decide) ?_
          refine pg_bipush (pc := 82) (v := 6) dX11_readClash_82 (by decide) ?_
          refine pg_iload_n (pc := 84) (i := 1) (j := 1) (x := x1) dX11_readClash_84 rfl rfl ?_
          refine pg_imul (pc := 85) dX11_readClash_85 ?_
          refine pg_iadd (pc := 86) dX11_readClash_86 ?_
          refine pg_iload_n (pc := 87) (i := 2) (j := 0) (x := x2) dX11_readClash_87 rfl rfl ?_
          refine pg_iadd (pc := 88) dX11_readClash_88 ?_
          refine pg_iconst (pc := 89) (v := 1) dX11_readClash_89 (by decide) ?_
          refine pg_iast (pc := 90) h0.2.2.2.2.2.2.1 (b4 x1 M1 w1 x2 M2 w2 c0 c1) dX11_readClash_90 ?_
          refine pg_aload_n (pc := 91) (i := 0) (j := 2) (x := 207) dX11_readClash_91 rfl rfl ?_
          refine gfX11_89 (pc := 92) rfl h0 dX11_readClash_92 ?_
          refine pg_sipush (pc := 95) (v := 132) dX11_readClash_95 (by decide) ?_
          refine pg_bipush (pc := 98) (v := 6) dX11_readClash_98 (by decide) ?_
          refine pg_iload_n (pc := 100) (i := 2) (j := 0) (x := x2) dX11_readClash_100 rfl rfl ?_
          refine pg_imul (pc := 101) dX11_readClash_101 ?_
          refine pg_iadd (pc := 102) dX11_readClash_102 ?_
          refine pg_iload_n (pc := 103) (i := 1) (j := 1) (x := x1) dX11_readClash_103 rfl rfl ?_
          refine pg_iadd (pc := 104) dX11_readClash_104 ?_
          refine pg_iconst (pc := 105) (v := 1) dX11_readClash_105 (by decide) ?_
          refine pg_iast (pc := 106) h0.2.2.2.2.2.2.1 (b5 x1 M1 w1 x2 M2 w2 c0 c1 c2 c3) dX11_readClash_106 ?_
          refine pg_named (fun N3 u3 => ?_)
          refine pg_aload_n (pc := 107) (i := 0) (j := 2) (x := 207) dX11_readClash_107 rfl rfl ?_
          refine gfX11_89 (pc := 108) rfl h0 dX11_readClash_108 ?_
          refine pg_bipush (pc := 111) (v := 105) dX11_readClash_111 (by decide) ?_
          refine pg_dup2_11 (pc := 113) dX11_readClash_113 rfl rfl ?_
          refine pg_iald (pc := 114) h0.2.2.2.2.2.2.1 (by unfold vp_in; decide) dX11_readClash_114 ?_
          refine pg_iconst (pc := 115) (v := 1) dX11_readClash_115 (by decide) ?_
          refine pg_iadd (pc := 116) dX11_readClash_116 ?_
          refine pg_iast (pc := 117) h0.2.2.2.2.2.2.1 (by unfold vp_in; decide) dX11_readClash_117 ?_
          exact pg_vret (pc := 118) rfl dX11_readClash_118 (k5 x1 M1 w1 x2 M2 w2 c0 c1 c2 c3 N3 u3)
      · skip
        refine pg_aload_n (pc := 53) (i := 0) (j := 2) (x := 207) dX11_readClash_53 rfl rfl ?_
        refine pg_iconst (pc := 54) (v := 3) dX11_readClash_54 (by decide) ?_
        refine pg_callV (pc := 55) (As := [.int 3]) (st := []) okX11_wrong lkX11_183 rfl h0.1 rfl (Nat.le_refl _) (Nat.le_of_ble_eq_true rfl) (e3 x1 M1 w1 x2 M2 w2 c0 c1 c2) dX11_readClash_55 (fun r4 M4 w4 => ?_)
        obtain ⟨rfl, w4⟩ := w4
        refine pg_aload_n (pc := 58) (i := 0) (j := 2) (x := 207) dX11_readClash_58 rfl rfl ?_
        refine gfX11_177 (pc := 59) rfl h0 dX11_readClash_59 ?_
        refine pg_if_ne (pc := 62) (tgt := 118) dX11_readClash_62 (by decide) (fun c3 => ?_) (fun c3 => ?_)
        · skip
          exact pg_vret (pc := 118) rfl dX11_readClash_118 (k6 x1 M1 w1 x2 M2 w2 c0 c1 c2 M4 w4 c3)
        · skip
          refine pg_aload_n (pc := 65) (i := 0) (j := 2) (x := 207) dX11_readClash_65 rfl rfl ?_
          refine pg_dup (pc := 66) dX11_readClash_66 rfl ?_
          refine gfX11_174 (pc := 67) rfl h0 dX11_readClash_67 ?_
          refine pg_iconst (pc := 70) (v := 1) dX11_readClash_70 (by decide) ?_
          refine pg_iadd (pc := 71) dX11_readClash_71 ?_
          refine pfX11_174 (pc := 72) rfl h0 dX11_readClash_72 ?_
          refine pg_aload_n (pc := 75) (i := 0) (j := 2) (x := 207) dX11_readClash_75 rfl rfl ?_
          refine gfX11_89 (pc := 76) rfl h0 dX11_readClash_76 ?_
          refine pg_sipush (pc := 79) (v := 132) dX11_readClash_79 (by decide) ?_
          refine pg_bipush (pc := 82) (v := 6) dX11_readClash_82 (by decide) ?_
          refine pg_iload_n (pc := 84) (i := 1) (j := 1) (x := x1) dX11_readClash_84 rfl rfl ?_
          refine pg_imul (pc := 85) dX11_readClash_85 ?_
          refine pg_iadd (pc := 86) dX11_readClash_86 ?_
          refine pg_iload_n (pc := 87) (i := 2) (j := 0) (x := x2) dX11_readClash_87 rfl rfl ?_
          refine pg_iadd (pc := 88) dX11_readClash_88 ?_
          refine pg_iconst (pc := 89) (v := 1) dX11_readClash_89 (by decide) ?_
          refine pg_iast (pc := 90) h0.2.2.2.2.2.2.1 (b4 x1 M1 w1 x2 M2 w2 c0 c1) dX11_readClash_90 ?_
          refine pg_aload_n (pc := 91) (i := 0) (j := 2) (x := 207) dX11_readClash_91 rfl rfl ?_
          refine gfX11_89 (pc := 92) rfl h0 dX11_readClash_92 ?_
          refine pg_sipush (pc := 95) (v := 132) dX11_readClash_95 (by decide) ?_
          refine pg_bipush (pc := 98) (v := 6) dX11_readClash_98 (by decide) ?_
          refine pg_iload_n (pc := 100) (i := 2) (j := 0) (x := x2) dX11_readClash_100 rfl rfl ?_
          refine pg_imul (pc := 101) dX11_readClash_101 ?_
          refine pg_iadd (pc := 102) dX11_readClash_102 ?_
          refine pg_iload_n (pc := 103) (i := 1) (j := 1) (x := x1) dX11_readClash_103 rfl rfl ?_
          refine pg_iadd (pc := 104) dX11_readClash_104 ?_
          refine pg_iconst (pc := 105) (v := 1) dX11_readClash_105 (by decide) ?_
          refine pg_iast (pc := 106) h0.2.2.2.2.2.2.1 (b6 x1 M1 w1 x2 M2 w2 c0 c1 c2 M4 w4 c3) dX11_readClash_106 ?_
          refine pg_named (fun N4 u4 => ?_)
          refine pg_aload_n (pc := 107) (i := 0) (j := 2) (x := 207) dX11_readClash_107 rfl rfl ?_
          refine gfX11_89 (pc := 108) rfl h0 dX11_readClash_108 ?_
          refine pg_bipush (pc := 111) (v := 105) dX11_readClash_111 (by decide) ?_
          refine pg_dup2_11 (pc := 113) dX11_readClash_113 rfl rfl ?_
          refine pg_iald (pc := 114) h0.2.2.2.2.2.2.1 (by unfold vp_in; decide) dX11_readClash_114 ?_
          refine pg_iconst (pc := 115) (v := 1) dX11_readClash_115 (by decide) ?_
          refine pg_iadd (pc := 116) dX11_readClash_116 ?_
          refine pg_iast (pc := 117) h0.2.2.2.2.2.2.1 (by unfold vp_in; decide) dX11_readClash_117 ?_
          exact pg_vret (pc := 118) rfl dX11_readClash_118 (k7 x1 M1 w1 x2 M2 w2 c0 c1 c2 M4 w4 c3 N4 u4)
theorem oX11_readClash {d : Nat}  (h : pg_At S Λ YX11_readClash d 0 [(0, .ref 207)] [] M P) : pg_Ev S Λ YX11_readClash d [.ref 207] M P := pg_Ev.of (by decide) (by first | decide | exact Nat.le_of_ble_eq_true rfl) h

end PGS

