section PGS
variable {S : pg_S} {Λ : pg_L} {d : Nat} {M : pg_M} {P : Option Value → pg_M → Prop}

theorem sX0_millionths_0 {v1 : Nat} {v2 : Nat} {v3 : Int32} {v4 : Int32} 
    (h0 : pg_isX0 Λ)
    (h1 : pg_isX9 Λ v2)
    (b0 : vp_in v3 6)
    (b1 : vp_in (((pg_sl2 M 162 (fun j => if j < 100 then 0 else M.2.1 162 j)).1 (v2 + 1) v3.toNatClampNeg) * 10) 100)
    (k0 : ∀ N1, N1 = pg_sj (pg_sl2 M 162 (fun j => if j < 100 then 0 else M.2.1 162 j)) 162 (((pg_sl2 M 162 (fun j => if j < 100 then 0 else M.2.1 162 j)).1 (v2 + 1) v3.toNatClampNeg) * 10).toNatClampNeg 1 → pg_At S Λ YX0_millionths (d + 1) 29 [(0, .ref 161), (1, .ref v1), (2, .ref v2), (3, .int v3), (4, .int v4), (5, .long 1), (7, .int 0)] [] N1 P) :
    pg_At S Λ YX0_millionths (d + 1) 0 [(0, .ref 161), (1, .ref v1), (2, .ref v2), (3, .int v3), (4, .int v4)] [] M P := by
  refine pg_lconst (pc := 0) (v := 1) dX0_millionths_0 (by decide) ?_
  refine pg_lstore (pc := 1) (i := 5) (ls' := [(5, .long 1), (0, .ref 161), (1, .ref v1), (2, .ref v2), (3, .int v3), (4, .int v4)]) dX0_millionths_1 (by decide) rfl ?_
  refine pg_aload_n (pc := 3) (i := 0) (j := 1) (x := 161) dX0_millionths_3 rfl rfl ?_
  refine gfX0_11 (pc := 4) rfl h0 dX0_millionths_4 ?_
  refine pg_lconst (pc := 7) (v := 0) dX0_millionths_7 (by decide) ?_
  refine pg_jfilll (pc := 8) (st := []) lkX0_18 (Nat.le_of_ble_eq_true rfl) h0.2.1 (by decide) dX0_millionths_8 ?_
  refine pg_aload_n (pc := 11) (i := 0) (j := 1) (x := 161) dX0_millionths_11 rfl rfl ?_
  refine gfX0_11 (pc := 12) rfl h0 dX0_millionths_12 ?_
  refine pg_aload_n (pc := 15) (i := 2) (j := 3) (x := v2) dX0_millionths_15 rfl rfl ?_
  refine gfX0_24 (pc := 16) rfl h1 dX0_millionths_16 ?_
  refine pg_iload_n (pc := 19) (i := 3) (j := 4) (x := v3) dX0_millionths_19 rfl rfl ?_
  refine pg_iald (pc := 20) h1.2.1 b0 dX0_millionths_20 ?_
  refine pg_bipush (pc := 21) (v := 10) dX0_millionths_21 (by decide) ?_
  refine pg_imul (pc := 23) dX0_millionths_23 ?_
  refine pg_lconst (pc := 24) (v := 1) dX0_millionths_24 (by decide) ?_
  refine pg_last (pc := 25) h0.2.1 b1 dX0_millionths_25 ?_
  refine pg_named (fun N1 u1 => ?_)
  refine pg_iconst (pc := 26) (v := 0) dX0_millionths_26 (by decide) ?_
  refine pg_istore (pc := 27) (i := 7) (ls' := [(7, .int 0), (5, .long 1), (0, .ref 161), (1, .ref v1), (2, .ref v2), (3, .int v3), (4, .int v4)]) dX0_millionths_27 (by decide) rfl ?_
  refine pg_drop (ks := [2, 3, 4, 5, 6, 1, 0]) (ls' := [(0, .ref 161), (1, .ref v1), (2, .ref v2), (3, .int v3), (4, .int v4), (5, .long 1), (7, .int 0)]) rfl ?_
  exact k0 N1 u1
theorem sX0_millionths_29 {v1 : Nat} {v2 : Nat} {v3 : Int32} {v4 : Int32} {v5 : Int64} {v7 : Int32} {Q0 : Int32 → pg_M → Prop}
    (h0 : pg_isX9 Λ v2)
    (h1 : pg_isX5 Λ v1)
    (h2 : pg_isX0 Λ)
    (k0 : (v4 ≤ v7) → pg_At S Λ YX0_millionths (d + 1) 161 [(0, .ref 161), (5, .long v5), (7, .long 0), (9, .int 0)] [] M P)
    (e0 : (¬ v4 ≤ v7) → pg_Ev S Λ YX5_windAt d [.ref v1, .int ((M.1 v2 5) + v7)] M (fun r M' => ∃ x, r = some (.int x) ∧ Q0 x M'))
    (k1 : (¬ v4 ≤ v7) → ∀ x1 M1, Q0 x1 M1 → pg_At S Λ YX0_millionths (d + 1) 60 [(0, .ref 161), (1, .ref v1), (2, .ref v2), (3, .int v3), (4, .int v4), (5, .long v5), (7, .int v7), (8, .int x1), (9, .int 0)] [] (pg_sl2 M1 163 (fun j => if j < 100 then 0 else M1.2.1 163 j)) P) :
    pg_At S Λ YX0_millionths (d + 1) 29 [(0, .ref 161), (1, .ref v1), (2, .ref v2), (3, .int v3), (4, .int v4), (5, .long v5), (7, .int v7)] [] M P := by
  refine pg_iload (pc := 29) (i := 7) (j := 6) (x := v7) dX0_millionths_29 rfl ?_
  refine pg_iload (pc := 31) (i := 4) (j := 4) (x := v4) dX0_millionths_31 rfl ?_
  refine pg_icmp_ge (pc := 33) (tgt := 155) dX0_millionths_33 (by decide) (fun c0 => ?_) (fun c0 => ?_)
  · skip
    refine pg_lconst (pc := 155) (v := 0) dX0_millionths_155 (by decide) ?_
    refine pg_lstore (pc := 156) (i := 7) (ls' := [(7, .long 0), (0, .ref 161), (1, .ref v1), (2, .ref v2), (3, .int v3), (4, .int v4), (5, .long v5)]) dX0_millionths_156 (by decide) rfl ?_
    refine pg_iconst (pc := 158) (v := 0) dX0_millionths_158 (by decide) ?_
    refine pg_istore (pc := 159) (i := 9) (ls' := [(9, .int 0), (7, .long 0), (0, .ref 161), (1, .ref v1), (2, .ref v2), (3, .int v3), (4, .int v4), (5, .long v5)]) dX0_millionths_159 (by decide) rfl ?_
    refine pg_drop (ks := [2, 7, 1, 0]) (ls' := [(0, .ref 161), (5, .long v5), (7, .long 0), (9, .int 0)]) rfl ?_
    exact k0 c0
  · skip
    refine pg_aload_n (pc := 36) (i := 1) (j := 1) (x := v1) dX0_millionths_36 rfl rfl ?_
    refine pg_aload_n (pc := 37) (i := 2) (j := 2) (x := v2) dX0_millionths_37 rfl rfl ?_
    refine gfX0_30 (pc := 38) rfl h0 dX0_millionths_38 ?_
    refine pg_iload (pc := 41) (i := 7) (j := 6) (x := v7) dX0_millionths_41 rfl ?_
    refine pg_iadd (pc := 43) dX0_millionths_43 ?_
    refine pg_callV (pc := 44) (As := [.int ((M.1 v2 5) + v7)]) (st := []) okX5_windAt lkX0_34 rfl h1.1 rfl (Nat.le_refl _) (Nat.le_of_ble_eq_true rfl) (e0 c0) dX0_millionths_44 (fun r1 M1 w1 => ?_)
    obtain ⟨x1, rfl, w1⟩ := w1
    refine pg_istore (pc := 47) (i := 8) (ls' := [(8, .int x1), (0, .ref 161), (1, .ref v1), (2, .ref v2), (3, .int v3), (4, .int v4), (5, .long v5), (7, .int v7)]) dX0_millionths_47 (by decide) rfl ?_
    refine pg_aload_n (pc := 49) (i := 0) (j := 1) (x := 161) dX0_millionths_49 rfl rfl ?_
    refine gfX0_15 (pc := 50) rfl h2 dX0_millionths_50 ?_
    refine pg_lconst (pc := 53) (v := 0) dX0_millionths_53 (by decide) ?_
    refine pg_jfilll (pc := 54) (st := []) lkX0_18 (Nat.le_of_ble_eq_true rfl) h2.2.2 (by decide) dX0_millionths_54 ?_
    refine pg_iconst (pc := 57) (v := 0) dX0_millionths_57 (by decide) ?_
    refine pg_istore (pc := 58) (i := 9) (ls' := [(9, .int 0), (8, .int x1), (0, .ref 161), (1, .ref v1), (2, .ref v2), (3, .int v3), (4, .int v4), (5, .long v5), (7, .int v7)]) dX0_millionths_58 (by decide) rfl ?_
    refine pg_drop (ks := [2, 3, 4, 5, 6, 7, 8, 1, 0]) (ls' := [(0, .ref 161), (1, .ref v1), (2, .ref v2), (3, .int v3), (4, .int v4), (5, .long v5), (7, .int v7), (8, .int x1), (9, .int 0)]) rfl ?_
    exact k1 c0 x1 M1 w1
theorem sX0_millionths_161 {v5 : Int64} {v7 : Int64} {v9 : Int32} 
    (h0 : pg_isX0 Λ)
    (b0 : ((Int32.ofNat 100) ≤ v9) → (0 ≤ (lg_cmp v5 1)) → ¬ v5 = 0)
    (k0 : ((Int32.ofNat 100) ≤ v9) → (0 ≤ (lg_cmp v5 1)) → P (some (.int (((v7 * 1000000) / v5).toInt32))) M)
    (k1 : ((Int32.ofNat 100) ≤ v9) → (¬ 0 ≤ (lg_cmp v5 1)) → P (some (.int 0)) M)
    (b1 : (¬ (Int32.ofNat 100) ≤ v9) → vp_in v9 100)
    (k2 : (¬ (Int32.ofNat 100) ≤ v9) → pg_At S Λ YX0_millionths (d + 1) 161 [(0, .ref 161), (5, .long v5), (7, .long (v7 + (M.2.1 162 v9.toNatClampNeg))), (9, .int (v9 + 1))] [] M P) :
    pg_At S Λ YX0_millionths (d + 1) 161 [(0, .ref 161), (5, .long v5), (7, .long v7), (9, .int v9)] [] M P := by
  refine pg_iload (pc := 161) (i := 9) (j := 3) (x := v9) dX0_millionths_161 rfl ?_
  refine pg_aload_n (pc := 163) (i := 0) (j := 0) (x := 161) dX0_millionths_163 rfl rfl ?_
  refine gfX0_11 (pc := 164) rfl h0 dX0_millionths_164 ?_
  refine pg_alen (pc := 167) h0.2.1 1 rfl dX0_millionths_167 ?_
  refine pg_icmp_ge (pc := 168) (tgt := 189) dX0_millionths_168 (by decide) (fun c0 => ?_) (fun c0 => ?_)
  · skip
    refine pg_lload (pc := 189) (i := 5) (j := 1) (x := v5) dX0_millionths_189 rfl ?_
    refine pg_lconst (pc := 191) (v := 1) dX0_millionths_191 (by decide) ?_
    refine pg_lcmp (pc := 192) dX0_millionths_192 ?_
    refine pg_if_ge (pc := 193) (tgt := 200) dX0_millionths_193 (by decide) (fun c1 => ?_) (fun c1 => ?_)
    · skip
      refine pg_lload (pc := 200) (i := 7) (j := 2) (x := v7) dX0_millionths_200 rfl ?_
      refine pg_ldc2 (pc := 202) (v := 1000000) kX0_55 dX0_millionths_202 ?_
      refine pg_lmul (pc := 205) dX0_millionths_205 ?_
      refine pg_lload (pc := 206) (i := 5) (j := 1) (x := v5) dX0_millionths_206 rfl ?_
      refine pg_ldiv (pc := 208) dX0_millionths_208 (b0 c0 c1) ?_
      refine pg_l2i (pc := 209) dX0_millionths_209 rfl ?_
      exact pg_iret (pc := 210) rfl dX0_millionths_210 (k0 c0 c1)
    · skip
      refine pg_iconst (pc := 196) (v := 0) dX0_millionths_196 (by decide) ?_
      refine pg_goto (pc := 197) (tgt := 210) dX0_millionths_197 (by decide) ?_
      exact pg_iret (pc := 210) rfl dX0_millionths_210 (k1 c0 c1)
  · skip
    refine pg_lload (pc := 171) (i := 7) (j := 2) (x := v7) dX0_millionths_171 rfl ?_
    refine pg_aload_n (pc := 173) (i := 0) (j := 0) (x := 161) dX0_millionths_173 rfl rfl ?_
    refine gfX0_11 (pc := 174) rfl h0 dX0_millionths_174 ?_
    refine pg_iload (pc := 177) (i := 9) (j := 3) (x := v9) dX0_millionths_177 rfl ?_
    refine pg_lald (pc := 179) h0.2.1 (b1 c0) dX0_millionths_179 ?_
    refine pg_ladd (pc := 180) dX0_millionths_180 ?_
    refine pg_lstore (pc := 181) (i := 7) (ls' := [(7, .long (v7 + (M.2.1 162 v9.toNatClampNeg))), (0, .ref 161), (5, .long v5), (9, .int v9)]) dX0_millionths_181 (by decide) rfl ?_
    refine pg_iinc (pc := 183) (i := 9) (j := 3) (x := v9) (v := v9 + 1) (ls' := [(9, .int (v9 + 1)), (7, .long (v7 + (M.2.1 162 v9.toNatClampNeg))), (0, .ref 161), (5, .long v5)]) dX0_millionths_183 rfl rfl (by decide) rfl ?_
    refine pg_goto (pc := 186) (tgt := 161) dX0_millionths_186 (by decide) ?_
    refine pg_drop (ks := [2, 3, 1, 0]) (ls' := [(0, .ref 161), (5, .long v5), (7, .long (v7 + (M.2.1 162 v9.toNatClampNeg))), (9, .int (v9 + 1))]) rfl ?_
    exact k2 c0
theorem sX0_millionths_60 {v1 : Nat} {v2 : Nat} {v3 : Int32} {v4 : Int32} {v5 : Int64} {v7 : Int32} {v8 : Int32} {v9 : Int32} {Q0 : pg_M → Prop} {Q1 : pg_M → Prop}
    (h0 : pg_isX0 Λ)
    (h1 : pg_isX5 Λ v1)
    (k0 : ((Int32.ofNat 100) ≤ v9) → ∀ N2, N2 = pg_sl2 M 162 (va_cpy (M.2.1 163) (M.2.1 162) (0 : Int32).toNatClampNeg (0 : Int32).toNatClampNeg (Int32.ofNat 100).toNatClampNeg) → pg_At S Λ YX0_millionths (d + 1) 29 [(0, .ref 161), (1, .ref v1), (2, .ref v2), (3, .int v3), (4, .int v4), (5, .long (v5 * 10)), (7, .int (v7 + 1))] [] N2 P)
    (b0 : (¬ (Int32.ofNat 100) ≤ v9) → vp_in v9 100)
    (k1 : (¬ (Int32.ofNat 100) ≤ v9) → ((lg_cmp (M.2.1 162 v9.toNatClampNeg) 0) = 0) → pg_At S Λ YX0_millionths (d + 1) 60 [(0, .ref 161), (1, .ref v1), (2, .ref v2), (3, .int v3), (4, .int v4), (5, .long v5), (7, .int v7), (8, .int v8), (9, .int (v9 + 1))] [] M P)
    (e0 : (¬ (Int32.ofNat 100) ≤ v9) → (¬ (lg_cmp (M.2.1 162 v9.toNatClampNeg) 0) = 0) → pg_Ev S Λ YX0_goOn d [.ref 161, .ref v1, .ref v2, .int v3, .int v9, .int v8, .int (10 - (M.1 v1 14))] M (fun r M' => r = none ∧ Q0 M'))
    (e1 : (¬ (Int32.ofNat 100) ≤ v9) → (¬ (lg_cmp (M.2.1 162 v9.toNatClampNeg) 0) = 0) → ∀ M1, Q0 M1 → pg_Ev S Λ YX0_goOn d [.ref 161, .ref v1, .ref v2, .int v3, .int v9, .int (v8 + 3), .int (M1.1 v1 14)] M1 (fun r M' => r = none ∧ Q1 M'))
    (k2 : (¬ (Int32.ofNat 100) ≤ v9) → (¬ (lg_cmp (M.2.1 162 v9.toNatClampNeg) 0) = 0) → ∀ M1, Q0 M1 → ∀ M2, Q1 M2 → pg_At S Λ YX0_millionths (d + 1) 60 [(0, .ref 161), (1, .ref v1), (2, .ref v2), (3, .int v3), (4, .int v4), (5, .long v5), (7, .int v7), (8, .int v8), (9, .int (v9 + 1))] [] M2 P) :
    pg_At S Λ YX0_millionths (d + 1) 60 [(0, .ref 161), (1, .ref v1), (2, .ref v2), (3, .int v3), (4, .int v4), (5, .long v5), (7, .int v7), (8, .int v8), (9, .int v9)] [] M P := by
  refine pg_iload (pc := 60) (i := 9) (j := 8) (x := v9) dX0_millionths_60 rfl ?_
  refine pg_aload_n (pc := 62) (i := 0) (j := 0) (x := 161) dX0_millionths_62 rfl rfl ?_
  refine gfX0_11 (pc := 63) rfl h0 dX0_millionths_63 ?_
  refine pg_alen (pc := 66) h0.2.1 1 rfl dX0_millionths_66 ?_
  refine pg_icmp_ge (pc := 67) (tgt := 123) dX0_millionths_67 (by decide) (fun c0 => ?_) (fun c0 => ?_)
  · skip
    refine pg_aload_n (pc := 123) (i := 0) (j := 0) (x := 161) dX0_millionths_123 rfl rfl ?_
    refine gfX0_15 (pc := 124) rfl h0 dX0_millionths_124 ?_
    refine pg_iconst (pc := 127) (v := 0) dX0_millionths_127 (by decide) ?_
    refine pg_aload_n (pc := 128) (i := 0) (j := 0) (x := 161) dX0_millionths_128 rfl rfl ?_
    refine gfX0_11 (pc := 129) rfl h0 dX0_millionths_129 ?_
    refine pg_iconst (pc := 132) (v := 0) dX0_millionths_132 (by decide) ?_
    refine pg_aload_n (pc := 133) (i := 0) (j := 0) (x := 161) dX0_millionths_133 rfl rfl ?_
    refine gfX0_11 (pc := 134) rfl h0 dX0_millionths_134 ?_
    refine pg_alen (pc := 137) h0.2.1 1 rfl dX0_millionths_137 ?_
    refine pg_copyl (pc := 138) (st := []) lkX0_47 (Nat.le_of_ble_eq_true rfl) h0.2.2 h0.2.1 (by decide) (by decide) (by decide) (by decide) (by decide) dX0_millionths_138 ?_
    refine pg_named (fun N2 u2 => ?_)
    refine pg_lload (pc := 141) (i := 5) (j := 5) (x := v5) dX0_millionths_141 rfl ?_
    refine pg_ldc2 (pc := 143) (v := 10) kX0_53 dX0_millionths_143 ?_
    refine pg_lmul (pc := 146) dX0_millionths_146 ?_
    refine pg_lstore (pc := 147) (i := 5) (ls' := [(5, .long (v5 * 10)), (0, .ref 161), (1, .ref v1), (2, .ref v2), (3, .int v3), (4, .int v4), (7, .int v7), (8, .int v8), (9, .int v9)]) dX0_millionths_147 (by decide) rfl ?_
    refine pg_iinc (pc := 149) (i := 7) (j := 6) (x := v7) (v := v7 + 1) (ls' := [(7, .int (v7 + 1)), (5, .long (v5 * 10)), (0, .ref 161), (1, .ref v1), (2, .ref v2), (3, .int v3), (4, .int v4), (8, .int v8), (9, .int v9)]) dX0_millionths_149 rfl rfl (by decide) rfl ?_
    refine pg_goto (pc := 152) (tgt := 29) dX0_millionths_152 (by decide) ?_
    refine pg_drop (ks := [2, 3, 4, 5, 6, 1, 0]) (ls' := [(0, .ref 161), (1, .ref v1), (2, .ref v2), (3, .int v3), (4, .int v4), (5, .long (v5 * 10)), (7, .int (v7 + 1))]) rfl ?_
    exact k0 c0 N2 u2
  · skip
    refine pg_aload_n (pc := 70) (i := 0) (j := 0) (x := 161) dX0_millionths_70 rfl rfl ?_
    refine gfX0_11 (pc := 71) rfl h0 dX0_millionths_71 ?_
    refine pg_iload (pc := 74) (i := 9) (j := 8) (x := v9) dX0_millionths_74 rfl ?_
    refine pg_lald (pc := 76) h0.2.1 (b0 c0) dX0_millionths_76 ?_
    refine pg_lconst (pc := 77) (v := 0) dX0_millionths_77 (by decide) ?_
    refine pg_lcmp (pc := 78) dX0_millionths_78 ?_
    refine pg_if_eq (pc := 79) (tgt := 117) dX0_millionths_79 (by decide) (fun c1 => ?_) (fun c1 => ?_)
    · skip
      refine pg_iinc (pc := 117) (i := 9) (j := 8) (x := v9) (v := v9 + 1) (ls' := [(9, .int (v9 + 1)), (0, .ref 161), (1, .ref v1), (2, .ref v2), (3, .int v3), (4, .int v4), (5, .long v5), (7, .int v7), (8, .int v8)]) dX0_millionths_117 rfl rfl (by decide) rfl ?_
      refine pg_goto (pc := 120) (tgt := 60) dX0_millionths_120 (by decide) ?_
      refine pg_drop (ks := [1, 2, 3, 4, 5, 6, 7, 8, 0]) (ls' := [(0, .ref 161), (1, .ref v1), (2, .ref v2), (3, .int v3), (4, .int v4), (5, .long v5), (7, .int v7), (8, .int v8), (9, .int (v9 + 1))]) rfl ?_
      exact k1 c0 c1
    · skip
      refine pg_aload_n (pc := 82) (i := 0) (j := 0) (x := 161) dX0_millionths_82 rfl rfl ?_
      refine pg_aload_n (pc := 83) (i := 1) (j := 1) (x := v1) dX0_millionths_83 rfl rfl ?_
      refine pg_aload_n (pc := 84) (i := 2) (j := 2) (x := v2) dX0_millionths_84 rfl rfl ?_
      refine pg_iload_n (pc := 85) (i := 3) (j := 3) (x := v3) dX0_millionths_85 rfl rfl ?_
      refine pg_iload (pc := 86) (i := 9) (j := 8) (x := v9) dX0_millionths_86 rfl ?_
      refine pg_iload (pc := 88) (i := 8) (j := 7) (x := v8) dX0_millionths_88 rfl ?_
      refine pg_bipush (pc := 90) (v := 10) dX0_millionths_90 (by decide) ?_
      refine pg_aload_n (pc := 92) (i := 1) (j := 1) (x := v1) dX0_millionths_92 rfl rfl ?_
      refine gfX0_40 (pc := 93) rfl h1 dX0_millionths_93 ?_
      refine pg_isub (pc := 96) dX0_millionths_96 ?_
      refine pg_callV (pc := 97) (As := [.ref v1, .ref v2, .int v3, .int v9, .int v8, .int (10 - (M.1 v1 14))]) (st := []) okX0_goOn lkX0_43 rfl h0.1 rfl (Nat.le_refl _) (Nat.le_of_ble_eq_true rfl) (e0 c0 c1) dX0_millionths_97 (fun r1 M1 w1 => ?_)
      obtain ⟨rfl, w1⟩ := w1
      refine pg_aload_n (pc := 100) (i := 0) (j := 0) (x := 161) dX0_millionths_100 rfl rfl ?_
      refine pg_aload_n (pc := 101) (i := 1) (j := 1) (x := v1) dX0_millionths_101 rfl rfl ?_
      refine pg_aload_n (pc := 102) (i := 2) (j := 2) (x := v2) dX0_millionths_102 rfl rfl ?_
      refine pg_iload_n (pc := 103) (i := 3) (j := 3) (x := v3) dX0_millionths_103 rfl rfl ?_
      refine pg_iload (pc := 104) (i := 9) (j := 8) (x := v9) dX0_millionths_104 rfl ?_
      refine pg_iload (pc := 106) (i := 8) (j := 7) (x := v8) dX0_millionths_106 rfl ?_
      refine pg_iconst (pc := 108) (v := 3) dX0_millionths_108 (by decide) ?_
      refine pg_iadd (pc := 109) dX0_millionths_109 ?_
      refine pg_aload_n (pc := 110) (i := 1) (j := 1) (x := v1) dX0_millionths_110 rfl rfl ?_
      refine gfX0_40 (pc := 111) rfl h1 dX0_millionths_111 ?_
      refine pg_callV (pc := 114) (As := [.ref v1, .ref v2, .int v3, .int v9, .int (v8 + 3), .int (M1.1 v1 14)]) (st := []) okX0_goOn lkX0_43 rfl h0.1 rfl (Nat.le_refl _) (Nat.le_of_ble_eq_true rfl) (e1 c0 c1 M1 w1) dX0_millionths_114 (fun r2 M2 w2 => ?_)
      obtain ⟨rfl, w2⟩ := w2
      refine pg_iinc (pc := 117) (i := 9) (j := 8) (x := v9) (v := v9 + 1) (ls' := [(9, .int (v9 + 1)), (0, .ref 161), (1, .ref v1), (2, .ref v2), (3, .int v3), (4, .int v4), (5, .long v5), (7, .int v7), (8, .int v8)]) dX0_millionths_117 rfl rfl (by decide) rfl ?_
      refine pg_goto (pc := 120) (tgt := 60) dX0_millionths_120 (by decide) ?_
      refine pg_drop (ks := [1, 2, 3, 4, 5, 6, 7, 8, 0]) (ls' := [(0, .ref 161), (1, .ref v1), (2, .ref v2), (3, .int v3), (4, .int v4), (5, .long v5), (7, .int v7), (8, .int v8), (9, .int (v9 + 1))]) rfl ?_
      exact k2 c0 c1 M1 w1 M2 w2
theorem oX0_millionths {d : Nat} {v1 : Nat} {v2 : Nat} {v3 : Int32} {v4 : Int32} (h : pg_At S Λ YX0_millionths d 0 [(0, .ref 161), (1, .ref v1), (2, .ref v2), (3, .int v3), (4, .int v4)] [] M P) : pg_Ev S Λ YX0_millionths d [.ref 161, .ref v1, .ref v2, .int v3, .int v4] M P := pg_Ev.of (by decide) (by first | decide | exact Nat.le_of_ble_eq_true rfl) h
theorem sX0_goOn_0 {v1 : Nat} {v2 : Nat} {v3 : Int32} {v4 : Int32} {v5 : Int32} {v6 : Int32} {Q0 : Int32 → pg_M → Prop} {Q1 : Int32 → pg_M → Prop} {Q2 : Int32 → pg_M → Prop} {Q3 : Int32 → pg_M → Prop} {Q4 : Int32 → pg_M → Prop} {Q5 : Int32 → pg_M → Prop}
    (h0 : pg_isX5 Λ v1)
    (h1 : pg_isX9 Λ v2)
    (h2 : pg_isX0 Λ)
    (e0 : pg_Ev S Λ YX5_pullOn d [.ref v1, .int v3, .int (v4 / 10), .int v5] M (fun r M' => ∃ x, r = some (.int x) ∧ Q0 x M'))
    (b0 : ∀ x1 M1, Q0 x1 M1 → vp_in v3 6)
    (e1 : ∀ x1 M1, Q0 x1 M1 → pg_Ev S Λ YX9_gripsLess d [.ref v2, .int (M1.1 (v2 + 3) v3.toNatClampNeg), .int (v4 - v4 / 10 * 10)] M1 (fun r M' => ∃ x, r = some (.int x) ∧ Q1 x M'))
    (k0 : ∀ x1 M1, Q0 x1 M1 → ∀ x2 M2, Q1 x2 M2 → (x1 ≤ x2) → ((2 * x1) ≤ x2) → (10 ≤ (v4 - v4 / 10 * 10)) → P none M2)
    (e2 : ∀ x1 M1, Q0 x1 M1 → ∀ x2 M2, Q1 x2 M2 → (x1 ≤ x2) → ((2 * x1) ≤ x2) → (¬ 10 ≤ (v4 - v4 / 10 * 10)) → pg_Ev S Λ YX9_gripsLess d [.ref v2, .int (M2.1 (v2 + 3) v3.toNatClampNeg), .int (v4 - v4 / 10 * 10)] M2 (fun r M' => ∃ x, r = some (.int x) ∧ Q2 x M'))
    (e3 : ∀ x1 M1, Q0 x1 M1 → ∀ x2 M2, Q1 x2 M2 → (x1 ≤ x2) → ((2 * x1) ≤ x2) → (¬ 10 ≤ (v4 - v4 / 10 * 10)) → ∀ x3 M3, Q2 x3 M3 → (¬ x3 = 0) → pg_Ev S Λ YX5_wetAfter d [.ref v1, .int v3, .int (v4 / 10), .int v5] M3 (fun r M' => ∃ x, r = some (.int x) ∧ Q3 x M'))
    (b1 : ∀ x1 M1, Q0 x1 M1 → ∀ x2 M2, Q1 x2 M2 → (x1 ≤ x2) → ((2 * x1) ≤ x2) → (¬ 10 ≤ (v4 - v4 / 10 * 10)) → ∀ x3 M3, Q2 x3 M3 → (¬ x3 = 0) → ∀ x4 M4, Q3 x4 M4 → vp_in ((x4 * 10) + (v4 - v4 / 10 * 10)) 100)
    (b2 : ∀ x1 M1, Q0 x1 M1 → ∀ x2 M2, Q1 x2 M2 → (x1 ≤ x2) → ((2 * x1) ≤ x2) → (¬ 10 ≤ (v4 - v4 / 10 * 10)) → ∀ x3 M3, Q2 x3 M3 → (¬ x3 = 0) → ∀ x4 M4, Q3 x4 M4 → vp_in v4 100)
    (k1 : ∀ x1 M1, Q0 x1 M1 → ∀ x2 M2, Q1 x2 M2 → (x1 ≤ x2) → ((2 * x1) ≤ x2) → (¬ 10 ≤ (v4 - v4 / 10 * 10)) → ∀ x3 M3, Q2 x3 M3 → (¬ x3 = 0) → ∀ x4 M4, Q3 x4 M4 → ∀ N1, N1 = pg_sj M4 163 ((x4 * 10) + (v4 - v4 / 10 * 10)).toNatClampNeg ((M4.2.1 163 ((x4 * 10) + (v4 - v4 / 10 * 10)).toNatClampNeg) + ((M4.2.1 162 v4.toNatClampNeg) * v6.toInt64)) → P none N1)
    (k2 : ∀ x1 M1, Q0 x1 M1 → ∀ x2 M2, Q1 x2 M2 → (x1 ≤ x2) → ((2 * x1) ≤ x2) → (¬ 10 ≤ (v4 - v4 / 10 * 10)) → ∀ x3 M3, Q2 x3 M3 → (x3 = 0) → P none M3)
    (k3 : ∀ x1 M1, Q0 x1 M1 → ∀ x2 M2, Q1 x2 M2 → (x1 ≤ x2) → (¬ (2 * x1) ≤ x2) → (10 ≤ ((v4 - v4 / 10 * 10) + 1)) → P none M2)
    (e4 : ∀ x1 M1, Q0 x1 M1 → ∀ x2 M2, Q1 x2 M2 → (x1 ≤ x2) → (¬ (2 * x1) ≤ x2) → (¬ 10 ≤ ((v4 - v4 / 10 * 10) + 1)) → pg_Ev S Λ YX9_gripsLess d [.ref v2, .int (M2.1 (v2 + 3) v3.toNatClampNeg), .int ((v4 - v4 / 10 * 10) + 1)] M2 (fun r M' => ∃ x, r = some (.int x) ∧ Q4 x M'))
    (e5 : ∀ x1 M1, Q0 x1 M1 → ∀ x2 M2, Q1 x2 M2 → (x1 ≤ x2) → (¬ (2 * x1) ≤ x2) → (¬ 10 ≤ ((v4 - v4 / 10 * 10) + 1)) → ∀ x5 M5, Q4 x5 M5 → (¬ x5 = 0) → pg_Ev S Λ YX5_wetAfter d [.ref v1, .int v3, .int (v4 / 10), .int v5] M5 (fun r M' => ∃ x, r = some (.int x) ∧ Q5 x M'))
    (b3 : ∀ x1 M1, Q0 x1 M1 → ∀ x2 M2, Q1 x2 M2 → (x1 ≤ x2) → (¬ (2 * x1) ≤ x2) → (¬ 10 ≤ ((v4 - v4 / 10 * 10) + 1)) → ∀ x5 M5, Q4 x5 M5 → (¬ x5 = 0) → ∀ x6 M6, Q5 x6 M6 → vp_in ((x6 * 10) + ((v4 - v4 / 10 * 10) + 1)) 100)
    (b4 : ∀ x1 M1, Q0 x1 M1 → ∀ x2 M2, Q1 x2 M2 → (x1 ≤ x2) → (¬ (2 * x1) ≤ x2) → (¬ 10 ≤ ((v4 - v4 / 10 * 10) + 1)) → ∀ x5 M5, Q4 x5 M5 → (¬ x5 = 0) → ∀ x6 M6, Q5 x6 M6 → vp_in v4 100)
    (k4 : ∀ x1 M1, Q0 x1 M1 → ∀ x2 M2, Q1 x2 M2 → (x1 ≤ x2) → (¬ (2 * x1) ≤ x2) → (¬ 10 ≤ ((v4 - v4 / 10 * 10) + 1)) → ∀ x5 M5, Q4 x5 M5 → (¬ x5 = 0) → ∀ x6 M6, Q5 x6 M6 → ∀ N2, N2 = pg_sj M6 163 ((x6 * 10) + ((v4 - v4 / 10 * 10) + 1)).toNatClampNeg ((M6.2.1 163 ((x6 * 10) + ((v4 - v4 / 10 * 10) + 1)).toNatClampNeg) + ((M6.2.1 162 v4.toNatClampNeg) * v6.toInt64)) → P none N2)
    (k5 : ∀ x1 M1, Q0 x1 M1 → ∀ x2 M2, Q1 x2 M2 → (x1 ≤ x2) → (¬ (2 * x1) ≤ x2) → (¬ 10 ≤ ((v4 - v4 / 10 * 10) + 1)) → ∀ x5 M5, Q4 x5 M5 → (x5 = 0) → P none M5)
    (k6 : ∀ x1 M1, Q0 x1 M1 → ∀ x2 M2, Q1 x2 M2 → (¬ x1 ≤ x2) → P none M2) :
    pg_At S Λ YX0_goOn (d + 1) 0 [(0, .ref 161), (1, .ref v1), (2, .ref v2), (3, .int v3), (4, .int v4), (5, .int v5), (6, .int v6)] [] M P := by
  refine pg_iload (pc := 0) (i := 4) (j := 4) (x := v4) dX0_goOn_0 rfl ?_
  refine pg_bipush (pc := 2) (v := 10) dX0_goOn_2 (by decide) ?_
  refine pg_idiv (pc := 4) dX0_goOn_4 (by decide) ?_
  refine pg_istore (pc := 5) (i := 7) (ls' := [(7, .int (v4 / 10)), (0, .ref 161), (1, .ref v1), (2, .ref v2), (3, .int v3), (4, .int v4), (5, .int v5), (6, .int v6)]) dX0_goOn_5 (by decide) rfl ?_
  refine pg_iload (pc := 7) (i := 4) (j := 5) (x := v4) dX0_goOn_7 rfl ?_
  refine pg_bipush (pc := 9) (v := 10) dX0_goOn_9 (by decide) ?_
  refine pg_irem (pc := 11) dX0_goOn_11 (by decide) ?_
  refine pg_istore (pc := 12) (i := 8) (ls' := [(8, .int (v4 - v4 / 10 * 10)), (7, .int (v4 / 10)), (0, .ref 161), (1, .ref v1), (2, .ref v2), (3, .int v3), (4, .int v4), (5, .int v5), (6, .int v6)]) dX0_goOn_12 (by decide) rfl ?_
  refine pg_aload_n (pc := 14) (i := 1) (j := 3) (x := v1) dX0_goOn_14 rfl rfl ?_
  refine pg_iload_n (pc := 15) (i := 3) (j := 5) (x := v3) dX0_goOn_15 rfl rfl ?_
  refine pg_iload (pc := 16) (i := 7) (j := 1) (x := (v4 / 10)) dX0_goOn_16 rfl ?_
  refine pg_iload (pc := 18) (i := 5) (j := 7) (x := v5) dX0_goOn_18 rfl ?_
  refine pg_callV (pc := 20) (As := [.int v3, .int (v4 / 10), .int v5]) (st := []) okX5_pullOn lkX0_57 rfl h0.1 rfl (Nat.le_refl _) (Nat.le_of_ble_eq_true rfl) e0 dX0_goOn_20 (fun r1 M1 w1 => ?_)
  obtain ⟨x1, rfl, w1⟩ := w1
  refine pg_istore (pc := 23) (i := 9) (ls' := [(9, .int x1), (8, .int (v4 - v4 / 10 * 10)), (7, .int (v4 / 10)), (0, .ref 161), (1, .ref v1), (2, .ref v2), (3, .int v3), (4, .int v4), (5, .int v5), (6, .int v6)]) dX0_goOn_23 (by decide) rfl ?_
  refine pg_aload_n (pc := 25) (i := 2) (j := 5) (x := v2) dX0_goOn_25 rfl rfl ?_
  refine pg_aload_n (pc := 26) (i := 2) (j := 5) (x := v2) dX0_goOn_26 rfl rfl ?_
  refine gfX0_61 (pc := 27) rfl h1 dX0_goOn_27 ?_
  refine pg_iload_n (pc := 30) (i := 3) (j := 6) (x := v3) dX0_goOn_30 rfl rfl ?_
  refine pg_iald (pc := 31) h1.2.2.2.1 (b0 x1 M1 w1) dX0_goOn_31 ?_
  refine pg_iload (pc := 32) (i := 8) (j := 1) (x := (v4 - v4 / 10 * 10)) dX0_goOn_32 rfl ?_
  refine pg_callV (pc := 34) (As := [.int (M1.1 (v2 + 3) v3.toNatClampNeg), .int (v4 - v4 / 10 * 10)]) (st := []) okX9_gripsLess lkX0_64 rfl h1.1 rfl (Nat.le_refl _) (Nat.le_of_ble_eq_true rfl) (e1 x1 M1 w1) dX0_goOn_34 (fun r2 M2 w2 => ?_)
  obtain ⟨x2, rfl, w2⟩ := w2
  refine pg_istore (pc := 37) (i := 10) (ls' := [(10, .int x2), (9, .int x1), (8, .int (v4 - v4 / 10 * 10)), (7, .int (v4 / 10)), (0, .ref 161), (1, .ref v1), (2, .ref v2), (3, .int v3), (4, .int v4), (5, .int v5), (6, .int v6)]) dX0_goOn_37 (by decide) rfl ?_
  refine pg_iload (pc := 39) (i := 9) (j := 1) (x := x1) dX0_goOn_39 rfl ?_
  refine pg_iload (pc := 41) (i := 10) (j := 0) (x := x2) dX0_goOn_41 rfl ?_
  refine pg_icmp_le (pc := 43) (tgt := 47) dX0_goOn_43 (by decide) (fun c0 => ?_) (fun c0 => ?_)
  · skip
    refine pg_iconst (pc := 47) (v := 2) dX0_goOn_47 (by decide) ?_
    refine pg_iload (pc := 48) (i := 9) (j := 1) (x := x1) dX0_goOn_48 rfl ?_
    refine pg_imul (pc := 50) dX0_goOn_50 ?_
    refine pg_iload (pc := 51) (i := 10) (j := 0) (x := x2) dX0_goOn_51 rfl ?_
    refine pg_icmp_le (pc := 53) (tgt := 59) dX0_goOn_53 (by decide) (fun c1 => ?_) (fun c1 => ?_)
    · skip
      refine pg_iload (pc := 59) (i := 8) (j := 2) (x := (v4 - v4 / 10 * 10)) dX0_goOn_59 rfl ?_
      refine pg_bipush (pc := 61) (v := 10) dX0_goOn_61 (by decide) ?_
      refine pg_icmp_ge (pc := 63) (tgt := 81) dX0_goOn_63 (by decide) (fun c2 => ?_) (fun c2 => ?_)
      · skip
        exact pg_vret (pc := 81) rfl dX0_goOn_81 (k0 x1 M1 w1 x2 M2 w2 c0 c1 c2)
      · skip
        refine pg_aload_n (pc := 66) (i := 2) (j := 6) (x := v2) dX0_goOn_66 rfl rfl ?_
        refine pg_aload_n (pc := 67) (i := 2) (j := 6) (x := v2) dX0_goOn_67 rfl rfl ?_
        refine gfX0_61 (pc := 68) rfl h1 dX0_goOn_68 ?_
        refine pg_iload_n (pc := 71) (i := 3) (j := 7) (x := v3) dX0_goOn_71 rfl rfl ?_
        refine pg_iald (pc := 72) h1.2.2.2.1 (b0 x1 M1 w1) dX0_goOn_72 ?_
        refine pg_iload (pc := 73) (i := 8) (j := 2) (x := (v4 - v4 / 10 * 10)) dX0_goOn_73 rfl ?_
        refine pg_callV (pc := 75) (As := [.int (M2.1 (v2 + 3) v3.toNatClampNeg), .int (v4 - v4 / 10 * 10)]) (st := []) okX9_gripsLess lkX0_64 rfl h1.1 rfl (Nat.le_refl _) (Nat.le_of_ble_eq_true rfl) (e2 x1 M1 w1 x2 M2 w2 c0 c1 c2) dX0_goOn_75 (fun r3 M3 w3 => ?_)
        obtain ⟨x3, rfl, w3⟩ := w3
        refine pg_if_ne (pc := 78) (tgt := 82) dX0_goOn_78 (by decide) (fun c3 => ?_) (fun c3 => ?_)
        · skip
          refine pg_aload_n (pc := 82) (i := 0) (j := 4) (x := 161) dX0_goOn_82 rfl rfl ?_
          refine gfX0_15 (pc := 83) rfl h2 dX0_goOn_83 ?_
          refine pg_aload_n (pc := 86) (i := 1) (j := 5) (x := v1) dX0_goOn_86 rfl rfl ?_
          refine pg_iload_n (pc := 87) (i := 3) (j := 7) (x := v3) dX0_goOn_87 rfl rfl ?_
          refine pg_iload (pc := 88) (i := 7) (j := 3) (x := (v4 / 10)) dX0_goOn_88 rfl ?_
          refine pg_iload (pc := 90) (i := 5) (j := 9) (x := v5) dX0_goOn_90 rfl ?_
          refine pg_callV (pc := 92) (As := [.int v3, .int (v4 / 10), .int v5]) (st := [.ref 163]) okX5_wetAfter lkX0_68 rfl h0.1 rfl (Nat.le_refl _) (Nat.le_of_ble_eq_true rfl) (e3 x1 M1 w1 x2 M2 w2 c0 c1 c2 x3 M3 w3 c3) dX0_goOn_92 (fun r4 M4 w4 => ?_)
          obtain ⟨x4, rfl, w4⟩ := w4
          refine pg_bipush (pc := 95) (v := 10) dX0_goOn_95 (by decide) ?_
          refine pg_imul (pc := 97) dX0_goOn_97 ?_
          refine pg_iload (pc := 98) (i := 8) (j := 2) (x := (v4 - v4 / 10 * 10)) dX0_goOn_98 rfl ?_
          refine pg_iadd (pc := 100) dX0_goOn_100 ?_
          refine pg_dup2_11 (pc := 101) dX0_goOn_101 rfl rfl ?_
          refine pg_lald (pc := 102) h2.2.2 (b1 x1 M1 w1 x2 M2 w2 c0 c1 c2 x3 M3 w3 c3 x4 M4 w4) dX0_goOn_102 ?_
          refine pg_aload_n (pc := 103) (i := 0) (j := 4) (x := 161) dX0_goOn_103 rfl rfl ?_
          refine gfX0_11 (pc := 104) rfl h2 dX0_goOn_104 ?_
          refine pg_iload (pc := 107) (i := 4) (j := 8) (x := v4) dX0_goOn_107 rfl ?_
          refine pg_lald (pc := 109) h2.2.1 (b2 x1 M1 w1 x2 M2 w2 c0 c1 c2 x3 M3 w3 c3 x4 M4 w4) dX0_goOn_109 ?_
          refine pg_iload (pc := 110) (i := 6) (j := 10) (x := v6) dX0_goOn_110 rfl ?_
          refine pg_i2l (pc := 112) dX0_goOn_112 rfl ?_
          refine pg_lmul (pc := 113) dX0_goOn_113 ?_
          refine pg_ladd (pc := 114) dX0_goOn_114 ?_
          refine pg_last (pc := 115) h2.2.2 (b1 x1 M1 w1 x2 M2 w2 c0 c1 c2 x3 M3 w3 c3 x4 M4 w4) dX0_goOn_115 ?_
          refine pg_named (fun N1 u1 => ?_)
          exact pg_vret (pc := 116) rfl dX0_goOn_116 (k1 x1 M1 w1 x2 M2 w2 c0 c1 c2 x3 M3 w3 c3 x4 M4 w4 N1 u1)
        · skip
          exact pg_vret (pc := 81) rfl dX0_goOn_81 (k2 x1 M1 w1 x2 M2 w2 c0 c1 c2 x3 M3 w3 c3)
    · skip
      refine pg_iinc (pc := 56) (i := 8) (j := 2) (x := (v4 - v4 / 10 * 10)) (v := (v4 - v4 / 10 * 10) + 1) (ls' := [(8, .int ((v4 - v4 / 10 * 10) + 1)), (10, .int x2), (9, .int x1), (7, .int (v4 / 10)), (0, .ref 161), (1, .ref v1), (2, .ref v2), (3, .int v3), (4, .int v4), (5, .int v5), (6, .int v6)]) dX0_goOn_56 rfl rfl (by decide) rfl ?_
      refine pg_iload (pc := 59) (i := 8) (j := 0) (x := ((v4 - v4 / 10 * 10) + 1)) dX0_goOn_59 rfl ?_
      refine pg_bipush (pc := 61) (v := 10) dX0_goOn_61 (by decide) ?_
      refine pg_icmp_ge (pc := 63) (tgt := 81) dX0_goOn_63 (by decide) (fun c2 => ?_) (fun c2 => ?_)
      · skip
        exact pg_vret (pc := 81) rfl dX0_goOn_81 (k3 x1 M1 w1 x2 M2 w2 c0 c1 c2)
      · skip
        refine pg_aload_n (pc := 66) (i := 2) (j := 6) (x := v2) dX0_goOn_66 rfl rfl ?_
        refine pg_aload_n (pc := 67) (i := 2) (j := 6) (x := v2) dX0_goOn_67 rfl rfl ?_
        refine gfX0_61 (pc := 68) rfl h1 dX0_goOn_68 ?_
        refine pg_iload_n (pc := 71) (i := 3) (j := 7) (x := v3) dX0_goOn_71 rfl rfl ?_
        refine pg_iald (pc := 72) h1.2.2.2.1 (b0 x1 M1 w1) dX0_goOn_72 ?_
        refine pg_iload (pc := 73) (i := 8) (j := 0) (x := ((v4 - v4 / 10 * 10) + 1)) dX0_goOn_73 rfl ?_
        refine pg_callV (pc := 75) (As := [.int (M2.1 (v2 + 3) v3.toNatClampNeg), .int ((v4 - v4 / 10 * 10) + 1)]) (st := []) okX9_gripsLess lkX0_64 rfl h1.1 rfl (Nat.le_refl _) (Nat.le_of_ble_eq_true rfl) (e4 x1 M1 w1 x2 M2 w2 c0 c1 c2) dX0_goOn_75 (fun r5 M5 w5 => ?_)
        obtain ⟨x5, rfl, w5⟩ := w5
        refine pg_if_ne (pc := 78) (tgt := 82) dX0_goOn_78 (by decide) (fun c3 => ?_) (fun c3 => ?_)
        · skip
          refine pg_aload_n (pc := 82) (i := 0) (j := 4) (x := 161) dX0_goOn_82 rfl rfl ?_
          refine gfX0_15 (pc := 83) rfl h2 dX0_goOn_83 ?_
          refine pg_aload_n (pc := 86) (i := 1) (j := 5) (x := v1) dX0_goOn_86 rfl rfl ?_
          refine pg_iload_n (pc := 87) (i := 3) (j := 7) (x := v3) dX0_goOn_87 rfl rfl ?_
          refine pg_iload (pc := 88) (i := 7) (j := 3) (x := (v4 / 10)) dX0_goOn_88 rfl ?_
          refine pg_iload (pc := 90) (i := 5) (j := 9) (x := v5) dX0_goOn_90 rfl ?_
          refine pg_callV (pc := 92) (As := [.int v3, .int (v4 / 10), .int v5]) (st := [.ref 163]) okX5_wetAfter lkX0_68 rfl h0.1 rfl (Nat.le_refl _) (Nat.le_of_ble_eq_true rfl) (e5 x1 M1 w1 x2 M2 w2 c0 c1 c2 x5 M5 w5 c3) dX0_goOn_92 (fun r6 M6 w6 => ?_)
          obtain ⟨x6, rfl, w6⟩ := w6
          refine pg_bipush (pc := 95) (v := 10) dX0_goOn_95 (by decide) ?_
          refine pg_imul (pc := 97) dX0_goOn_97 ?_
          refine pg_iload (pc := 98) (i := 8) (j := 0) (x := ((v4 - v4 / 10 * 10) + 1)) dX0_goOn_98 rfl ?_
          refine pg_iadd (pc := 100) dX0_goOn_100 ?_
          refine pg_dup2_11 (pc := 101) dX0_goOn_101 rfl rfl ?_
          refine pg_lald (pc := 102) h2.2.2 (b3 x1 M1 w1 x2 M2 w2 c0 c1 c2 x5 M5 w5 c3 x6 M6 w6) dX0_goOn_102 ?_
          refine pg_aload_n (pc := 103) (i := 0) (j := 4) (x := 161) dX0_goOn_103 rfl rfl ?_
          refine gfX0_11 (pc := 104) rfl h2 dX0_goOn_104 ?_
          refine pg_iload (pc := 107) (i := 4) (j := 8) (x := v4) dX0_goOn_107 rfl ?_
          refine pg_lald (pc := 109) h2.2.1 (b4 x1 M1 w1 x2 M2 w2 c0 c1 c2 x5 M5 w5 c3 x6 M6 w6) dX0_goOn_109 ?_
          refine pg_iload (pc := 110) (i := 6) (j := 10) (x := v6) dX0_goOn_110 rfl ?_
          refine pg_i2l (pc := 112) dX0_goOn_112 rfl ?_
          refine pg_lmul (pc := 113) dX0_goOn_113 ?_
          refine pg_ladd (pc := 114) dX0_goOn_114 ?_
          refine pg_last (pc := 115) h2.2.2 (b3 x1 M1 w1 x2 M2 w2 c0 c1 c2 x5 M5 w5 c3 x6 M6 w6) dX0_goOn_115 ?_
          refine pg_named (fun N2 u2 => ?_)
          exact pg_vret (pc := 116) rfl dX0_goOn_116 (k4 x1 M1 w1 x2 M2 w2 c0 c1 c2 x5 M5 w5 c3 x6 M6 w6 N2 u2)
        · skip
          exact pg_vret (pc := 81) rfl dX0_goOn_81 (k5 x1 M1 w1 x2 M2 w2 c0 c1 c2 x5 M5 w5 c3)
  · skip
    exact pg_vret (pc := 46) rfl dX0_goOn_46 (k6 x1 M1 w1 x2 M2 w2 c0)
theorem oX0_goOn {d : Nat} {v1 : Nat} {v2 : Nat} {v3 : Int32} {v4 : Int32} {v5 : Int32} {v6 : Int32} (h : pg_At S Λ YX0_goOn d 0 [(0, .ref 161), (1, .ref v1), (2, .ref v2), (3, .int v3), (4, .int v4), (5, .int v5), (6, .int v6)] [] M P) : pg_Ev S Λ YX0_goOn d [.ref 161, .ref v1, .ref v2, .int v3, .int v4, .int v5, .int v6] M P := pg_Ev.of (by decide) (by first | decide | exact Nat.le_of_ble_eq_true rfl) h
theorem sX1_clear_0 {v0 : Nat} 
    (h0 : pg_isX1 Λ v0)
    (k0 : P none (pg_si M v0 3 0)) :
    pg_At S Λ YX1_clear d 0 [(0, .ref v0)] [] M P := by
  refine pg_aload_n (pc := 0) (i := 0) (j := 0) (x := v0) dX1_clear_0 rfl rfl ?_
  refine pg_iconst (pc := 1) (v := 0) dX1_clear_1 (by decide) ?_
  refine pfX1_21 (pc := 2) rfl h0 dX1_clear_2 ?_
  exact pg_vret (pc := 5) rfl dX1_clear_5 k0
theorem oX1_clear {d : Nat} {v0 : Nat} (h : pg_At S Λ YX1_clear d 0 [(0, .ref v0)] [] M P) : pg_Ev S Λ YX1_clear d [.ref v0] M P := pg_Ev.of (by decide) (by first | decide | exact Nat.le_of_ble_eq_true rfl) h
theorem sX1_add_0 {v0 : Nat} {v1 : Int32} {v2 : Int32} {v3 : Int32} 
    (h0 : pg_isX1 Λ v0)
    (k0 : (30 ≤ (M.1 v0 3)) → P none M)
    (b0 : (¬ 30 ≤ (M.1 v0 3)) → vp_in (M.1 v0 3) 30)
    (b1 : (¬ 30 ≤ (M.1 v0 3)) → vp_in ((pg_si M (v0 + 1) (M.1 v0 3).toNatClampNeg v1).1 v0 3) 30)
    (b2 : (¬ 30 ≤ (M.1 v0 3)) → ∀ N1, N1 = pg_si (pg_si M (v0 + 1) (M.1 v0 3).toNatClampNeg v1) (v0 + 2) ((pg_si M (v0 + 1) (M.1 v0 3).toNatClampNeg v1).1 v0 3).toNatClampNeg v2 → vp_in (N1.1 v0 3) 30)
    (k1 : (¬ 30 ≤ (M.1 v0 3)) → ∀ N1, N1 = pg_si (pg_si M (v0 + 1) (M.1 v0 3).toNatClampNeg v1) (v0 + 2) ((pg_si M (v0 + 1) (M.1 v0 3).toNatClampNeg v1).1 v0 3).toNatClampNeg v2 → ∀ N2, N2 = pg_si (pg_si N1 (v0 + 3) (N1.1 v0 3).toNatClampNeg v3) v0 3 (((pg_si N1 (v0 + 3) (N1.1 v0 3).toNatClampNeg v3).1 v0 3) + 1) → P none N2) :
    pg_At S Λ YX1_add d 0 [(0, .ref v0), (1, .int v1), (2, .int v2), (3, .int v3)] [] M P := by
  refine pg_aload_n (pc := 0) (i := 0) (j := 0) (x := v0) dX1_add_0 rfl rfl ?_
  refine gfX1_21 (pc := 1) rfl h0 dX1_add_1 ?_
  refine pg_bipush (pc := 4) (v := 30) dX1_add_4 (by decide) ?_
  refine pg_icmp_ge (pc := 6) (tgt := 49) dX1_add_6 (by decide) (fun c0 => ?_) (fun c0 => ?_)
  · skip
    exact pg_vret (pc := 49) rfl dX1_add_49 (k0 c0)
  · skip
    refine pg_aload_n (pc := 9) (i := 0) (j := 0) (x := v0) dX1_add_9 rfl rfl ?_
    refine gfX1_9 (pc := 10) rfl h0 dX1_add_10 ?_
    refine pg_aload_n (pc := 13) (i := 0) (j := 0) (x := v0) dX1_add_13 rfl rfl ?_
    refine gfX1_21 (pc := 14) rfl h0 dX1_add_14 ?_
    refine pg_iload_n (pc := 17) (i := 1) (j := 1) (x := v1) dX1_add_17 rfl rfl ?_
    refine pg_iast (pc := 18) h0.2.1 (b0 c0) dX1_add_18 ?_
    refine pg_aload_n (pc := 19) (i := 0) (j := 0) (x := v0) dX1_add_19 rfl rfl ?_
    refine gfX1_15 (pc := 20) rfl h0 dX1_add_20 ?_
    refine pg_aload_n (pc := 23) (i := 0) (j := 0) (x := v0) dX1_add_23 rfl rfl ?_
    refine gfX1_21 (pc := 24) rfl h0 dX1_add_24 ?_
    refine pg_iload_n (pc := 27) (i := 2) (j := 2) (x := v2) dX1_add_27 rfl rfl ?_
    refine pg_iast (pc := 28) h0.2.2.1 (b1 c0) dX1_add_28 ?_
    refine pg_named (fun N1 u1 => ?_)
    refine pg_aload_n (pc := 29) (i := 0) (j := 0) (x := v0) dX1_add_29 rfl rfl ?_
    refine gfX1_18 (pc := 30) rfl h0 dX1_add_30 ?_
    refine pg_aload_n (pc := 33) (i := 0) (j := 0) (x := v0) dX1_add_33 rfl rfl ?_
    refine gfX1_21 (pc := 34) rfl h0 dX1_add_34 ?_
    refine pg_iload_n (pc := 37) (i := 3) (j := 3) (x := v3) dX1_add_37 rfl rfl ?_
    refine pg_iast (pc := 38) h0.2.2.2 (b2 c0 N1 u1) dX1_add_38 ?_
    refine pg_aload_n (pc := 39) (i := 0) (j := 0) (x := v0) dX1_add_39 rfl rfl ?_
    refine pg_dup (pc := 40) dX1_add_40 rfl ?_
    refine gfX1_21 (pc := 41) rfl h0 dX1_add_41 ?_
    refine pg_iconst (pc := 44) (v := 1) dX1_add_44 (by decide) ?_
    refine pg_iadd (pc := 45) dX1_add_45 ?_
    refine pfX1_21 (pc := 46) rfl h0 dX1_add_46 ?_
    refine pg_named (fun N2 u2 => ?_)
    exact pg_vret (pc := 49) rfl dX1_add_49 (k1 c0 N1 u1 N2 u2)
theorem oX1_add {d : Nat} {v0 : Nat} {v1 : Int32} {v2 : Int32} {v3 : Int32} (h : pg_At S Λ YX1_add d 0 [(0, .ref v0), (1, .int v1), (2, .int v2), (3, .int v3)] [] M P) : pg_Ev S Λ YX1_add d [.ref v0, .int v1, .int v2, .int v3] M P := pg_Ev.of (by decide) (by first | decide | exact Nat.le_of_ble_eq_true rfl) h
theorem sX1_judge_0 {v0 : Nat} {v1 : Nat} {v2 : Nat} {Q0 : pg_M → Prop}
    (h0 : pg_isX1 Λ v0)
    (h1 : pg_isX9 Λ v2)
    (e0 : pg_Ev S Λ YX9_begin d [.ref v2, .ref v1] (pg_si (pg_si M v0 4 (-1)) v0 5 (-1)) (fun r M' => r = none ∧ Q0 M'))
    (k0 : ∀ M1, Q0 M1 → pg_At S Λ YX1_judge (d + 1) 17 [(0, .ref v0), (1, .ref v1), (2, .ref v2), (3, .int 0)] [] M1 P) :
    pg_At S Λ YX1_judge (d + 1) 0 [(0, .ref v0), (1, .ref v1), (2, .ref v2)] [] M P := by
  refine pg_aload_n (pc := 0) (i := 0) (j := 0) (x := v0) dX1_judge_0 rfl rfl ?_
  refine pg_iconst (pc := 1) (v := (-1)) dX1_judge_1 (by decide) ?_
  refine pfX1_25 (pc := 2) rfl h0 dX1_judge_2 ?_
  refine pg_aload_n (pc := 5) (i := 0) (j := 0) (x := v0) dX1_judge_5 rfl rfl ?_
  refine pg_iconst (pc := 6) (v := (-1)) dX1_judge_6 (by decide) ?_
  refine pfX1_28 (pc := 7) rfl h0 dX1_judge_7 ?_
  refine pg_aload_n (pc := 10) (i := 2) (j := 2) (x := v2) dX1_judge_10 rfl rfl ?_
  refine pg_aload_n (pc := 11) (i := 1) (j := 1) (x := v1) dX1_judge_11 rfl rfl ?_
  refine pg_callV (pc := 12) (As := [.ref v1]) (st := []) okX9_begin lkX1_31 rfl h1.1 rfl (Nat.le_refl _) (Nat.le_of_ble_eq_true rfl) e0 dX1_judge_12 (fun r1 M1 w1 => ?_)
  obtain ⟨rfl, w1⟩ := w1
  refine pg_iconst (pc := 15) (v := 0) dX1_judge_15 (by decide) ?_
  refine pg_istore_n (pc := 16) (i := 3) (ls' := [(3, .int 0), (0, .ref v0), (1, .ref v1), (2, .ref v2)]) dX1_judge_16 rfl (by decide) rfl ?_
  refine pg_drop (ks := [1, 2, 3, 0]) (ls' := [(0, .ref v0), (1, .ref v1), (2, .ref v2), (3, .int 0)]) rfl ?_
  exact k0 M1 w1
theorem sX1_judge_17 {v0 : Nat} {v1 : Nat} {v2 : Nat} {v3 : Int32} {Q0 : Int32 → pg_M → Prop} {Q1 : Int32 → pg_M → Prop}
    (h0 : pg_isX1 Λ v0)
    (h1 : pg_isX9 Λ v2)
    (k0 : ((M.1 v0 3) ≤ v3) → P none M)
    (b0 : (¬ (M.1 v0 3) ≤ v3) → vp_in v3 30)
    (e0 : (¬ (M.1 v0 3) ≤ v3) → (¬ (M.1 (v0 + 1) v3.toNatClampNeg) = 15) → pg_Ev S Λ YX1_canDo d [.ref v0, .ref v1, .ref v2, .int v3] M (fun r M' => ∃ x, r = some (.int x) ∧ Q0 x M'))
    (k1 : (¬ (M.1 v0 3) ≤ v3) → (¬ (M.1 (v0 + 1) v3.toNatClampNeg) = 15) → ∀ x1 M1, Q0 x1 M1 → (¬ x1 = 0) → pg_At S Λ YX1_judge (d + 1) 17 [(0, .ref v0), (1, .ref v1), (2, .ref v2), (3, .int (v3 + 1))] [] M1 P)
    (k2 : (¬ (M.1 v0 3) ≤ v3) → (¬ (M.1 (v0 + 1) v3.toNatClampNeg) = 15) → ∀ x1 M1, Q0 x1 M1 → (x1 = 0) → (¬ (M1.1 v0 4) = (-1)) → pg_At S Λ YX1_judge (d + 1) 17 [(0, .ref v0), (1, .ref v1), (2, .ref v2), (3, .int (v3 + 1))] [] M1 P)
    (k3 : (¬ (M.1 v0 3) ≤ v3) → (¬ (M.1 (v0 + 1) v3.toNatClampNeg) = 15) → ∀ x1 M1, Q0 x1 M1 → (x1 = 0) → ((M1.1 v0 4) = (-1)) → pg_At S Λ YX1_judge (d + 1) 17 [(0, .ref v0), (1, .ref v1), (2, .ref v2), (3, .int (v3 + 1))] [] (pg_si M1 v0 4 v3) P)
    (e1 : (¬ (M.1 v0 3) ≤ v3) → ((M.1 (v0 + 1) v3.toNatClampNeg) = 15) → pg_Ev S Λ YX9_passHour d [.ref v2, .ref v1, .int 0] M (fun r M' => ∃ x, r = some (.int x) ∧ Q1 x M'))
    (k4 : (¬ (M.1 v0 3) ≤ v3) → ((M.1 (v0 + 1) v3.toNatClampNeg) = 15) → ∀ x2 M2, Q1 x2 M2 → (x2 ≤ 0) → pg_At S Λ YX1_judge (d + 1) 17 [(0, .ref v0), (1, .ref v1), (2, .ref v2), (3, .int (v3 + 1))] [] M2 P)
    (k5 : (¬ (M.1 v0 3) ≤ v3) → ((M.1 (v0 + 1) v3.toNatClampNeg) = 15) → ∀ x2 M2, Q1 x2 M2 → (¬ x2 ≤ 0) → (¬ (M2.1 v0 5) = (-1)) → pg_At S Λ YX1_judge (d + 1) 17 [(0, .ref v0), (1, .ref v1), (2, .ref v2), (3, .int (v3 + 1))] [] M2 P)
    (k6 : (¬ (M.1 v0 3) ≤ v3) → ((M.1 (v0 + 1) v3.toNatClampNeg) = 15) → ∀ x2 M2, Q1 x2 M2 → (¬ x2 ≤ 0) → ((M2.1 v0 5) = (-1)) → pg_At S Λ YX1_judge (d + 1) 17 [(0, .ref v0), (1, .ref v1), (2, .ref v2), (3, .int (v3 + 1))] [] (pg_si M2 v0 5 v3) P) :
    pg_At S Λ YX1_judge (d + 1) 17 [(0, .ref v0), (1, .ref v1), (2, .ref v2), (3, .int v3)] [] M P := by
  refine pg_iload_n (pc := 17) (i := 3) (j := 3) (x := v3) dX1_judge_17 rfl rfl ?_
  refine pg_aload_n (pc := 18) (i := 0) (j := 0) (x := v0) dX1_judge_18 rfl rfl ?_
  refine gfX1_21 (pc := 19) rfl h0 dX1_judge_19 ?_
  refine pg_icmp_ge (pc := 22) (tgt := 90) dX1_judge_22 (by decide) (fun c0 => ?_) (fun c0 => ?_)
  · skip
    exact pg_vret (pc := 90) rfl dX1_judge_90 (k0 c0)
  · skip
    refine pg_aload_n (pc := 25) (i := 0) (j := 0) (x := v0) dX1_judge_25 rfl rfl ?_
    refine gfX1_9 (pc := 26) rfl h0 dX1_judge_26 ?_
    refine pg_iload_n (pc := 29) (i := 3) (j := 3) (x := v3) dX1_judge_29 rfl rfl ?_
    refine pg_iald (pc := 30) h0.2.1 (b0 c0) dX1_judge_30 ?_
    refine pg_bipush (pc := 31) (v := 15) dX1_judge_31 (by decide) ?_
    refine pg_icmp_ne (pc := 33) (tgt := 61) dX1_judge_33 (by decide) (fun c1 => ?_) (fun c1 => ?_)
    · skip
      refine pg_aload_n (pc := 61) (i := 0) (j := 0) (x := v0) dX1_judge_61 rfl rfl ?_
      refine pg_aload_n (pc := 62) (i := 1) (j := 1) (x := v1) dX1_judge_62 rfl rfl ?_
      refine pg_aload_n (pc := 63) (i := 2) (j := 2) (x := v2) dX1_judge_63 rfl rfl ?_
      refine pg_iload_n (pc := 64) (i := 3) (j := 3) (x := v3) dX1_judge_64 rfl rfl ?_
      refine pg_callV (pc := 65) (As := [.ref v1, .ref v2, .int v3]) (st := []) okX1_canDo lkX1_41 rfl h0.1 rfl (Nat.le_refl _) (Nat.le_of_ble_eq_true rfl) (e0 c0 c1) dX1_judge_65 (fun r1 M1 w1 => ?_)
      obtain ⟨x1, rfl, w1⟩ := w1
      refine pg_if_ne (pc := 68) (tgt := 84) dX1_judge_68 (by decide) (fun c2 => ?_) (fun c2 => ?_)
      · skip
        refine pg_iinc (pc := 84) (i := 3) (j := 3) (x := v3) (v := v3 + 1) (ls' := [(3, .int (v3 + 1)), (0, .ref v0), (1, .ref v1), (2, .ref v2)]) dX1_judge_84 rfl rfl (by decide) rfl ?_
        refine pg_goto (pc := 87) (tgt := 17) dX1_judge_87 (by decide) ?_
        refine pg_drop (ks := [1, 2, 3, 0]) (ls' := [(0, .ref v0), (1, .ref v1), (2, .ref v2), (3, .int (v3 + 1))]) rfl ?_
        exact k1 c0 c1 x1 M1 w1 c2
      · skip
        refine pg_aload_n (pc := 71) (i := 0) (j := 0) (x := v0) dX1_judge_71 rfl rfl ?_
        refine gfX1_25 (pc := 72) rfl h0 dX1_judge_72 ?_
        refine pg_iconst (pc := 75) (v := (-1)) dX1_judge_75 (by decide) ?_
        refine pg_icmp_ne (pc := 76) (tgt := 84) dX1_judge_76 (by decide) (fun c3 => ?_) (fun c3 => ?_)
        · skip
          refine pg_iinc (pc := 84) (i := 3) (j := 3) (x := v3) (v := v3 + 1) (ls' := [(3, .int (v3 + 1)), (0, .ref v0), (1, .ref v1), (2, .ref v2)]) dX1_judge_84 rfl rfl (by decide) rfl ?_
          refine pg_goto (pc := 87) (tgt := 17) dX1_judge_87 (by decide) ?_
          refine pg_drop (ks := [1, 2, 3, 0]) (ls' := [(0, .ref v0), (1, .ref v1), (2, .ref v2), (3, .int (v3 + 1))]) rfl ?_
          exact k2 c0 c1 x1 M1 w1 c2 c3
        · skip
          refine pg_aload_n (pc := 79) (i := 0) (j := 0) (x := v0) dX1_judge_79 rfl rfl ?_
          refine pg_iload_n (pc := 80) (i := 3) (j := 3) (x := v3) dX1_judge_80 rfl rfl ?_
          refine pfX1_25 (pc := 81) rfl h0 dX1_judge_81 ?_
          refine pg_iinc (pc := 84) (i := 3) (j := 3) (x := v3) (v := v3 + 1) (ls' := [(3, .int (v3 + 1)), (0, .ref v0), (1, .ref v1), (2, .ref v2)]) dX1_judge_84 rfl rfl (by decide) rfl ?_
          refine pg_goto (pc := 87) (tgt := 17) dX1_judge_87 (by decide) ?_
          refine pg_drop (ks := [1, 2, 3, 0]) (ls' := [(0, .ref v0), (1, .ref v1), (2, .ref v2), (3, .int (v3 + 1))]) rfl ?_
          exact k3 c0 c1 x1 M1 w1 c2 c3
    · skip
      refine pg_aload_n (pc := 36) (i := 2) (j := 2) (x := v2) dX1_judge_36 rfl rfl ?_
      refine pg_aload_n (pc := 37) (i := 1) (j := 1) (x := v1) dX1_judge_37 rfl rfl ?_
      refine pg_iconst (pc := 38) (v := 0) dX1_judge_38 (by decide) ?_
      refine pg_callV (pc := 39) (As := [.ref v1, .int 0]) (st := []) okX9_passHour lkX1_37 rfl h1.1 rfl (Nat.le_refl _) (Nat.le_of_ble_eq_true rfl) (e1 c0 c1) dX1_judge_39 (fun r2 M2 w2 => ?_)
      obtain ⟨x2, rfl, w2⟩ := w2
      refine pg_if_le (pc := 42) (tgt := 84) dX1_judge_42 (by decide) (fun c2 => ?_) (fun c2 => ?_)
      · skip
        refine pg_iinc (pc := 84) (i := 3) (j := 3) (x := v3) (v := v3 + 1) (ls' := [(3, .int (v3 + 1)), (0, .ref v0), (1, .ref v1), (2, .ref v2)]) dX1_judge_84 rfl rfl (by decide) rfl ?_
        refine pg_goto (pc := 87) (tgt := 17) dX1_judge_87 (by decide) ?_
        refine pg_drop (ks := [1, 2, 3, 0]) (ls' := [(0, .ref v0), (1, .ref v1), (2, .ref v2), (3, .int (v3 + 1))]) rfl ?_
        exact k4 c0 c1 x2 M2 w2 c2
      · skip
        refine pg_aload_n (pc := 45) (i := 0) (j := 0) (x := v0) dX1_judge_45 rfl rfl ?_
        refine gfX1_28 (pc := 46) rfl h0 dX1_judge_46 ?_
        refine pg_iconst (pc := 49) (v := (-1)) dX1_judge_49 (by decide) ?_
        refine pg_icmp_ne (pc := 50) (tgt := 84) dX1_judge_50 (by decide) (fun c3 => ?_) (fun c3 => ?_)
        · skip
          refine pg_iinc (pc := 84) (i := 3) (j := 3) (x := v3) (v := v3 + 1) (ls' := [(3, .int (v3 + 1)), (0, .ref v0), (1, .ref v1), (2, .ref v2)]) dX1_judge_84 rfl rfl (by decide) rfl ?_
          refine pg_goto (pc := 87) (tgt := 17) dX1_judge_87 (by decide) ?_
          refine pg_drop (ks := [1, 2, 3, 0]) (ls' := [(0, .ref v0), (1, .ref v1), (2, .ref v2), (3, .int (v3 + 1))]) rfl ?_
          exact k5 c0 c1 x2 M2 w2 c2 c3
        · skip
          refine pg_aload_n (pc := 53) (i := 0) (j := 0) (x := v0) dX1_judge_53 rfl rfl ?_
          refine pg_iload_n (pc := 54) (i := 3) (j := 3) (x := v3) dX1_judge_54 rfl rfl ?_
          refine pfX1_28 (pc := 55) rfl h0 dX1_judge_55 ?_
          refine pg_goto (pc := 58) (tgt := 84) dX1_judge_58 (by decide) ?_
          refine pg_iinc (pc := 84) (i := 3) (j := 3) (x := v3) (v := v3 + 1) (ls' := [(3, .int (v3 + 1)), (0, .ref v0), (1, .ref v1), (2, .ref v2)]) dX1_judge_84 rfl rfl (by decide) rfl ?_
          refine pg_goto (pc := 87) (tgt := 17) dX1_judge_87 (by decide) ?_
          refine pg_drop (ks := [1, 2, 3, 0]) (ls' := [(0, .ref v0), (1, .ref v1), (2, .ref v2), (3, .int (v3 + 1))]) rfl ?_
          exact k6 c0 c1 x2 M2 w2 c2 c3
theorem oX1_judge {d : Nat} {v0 : Nat} {v1 : Nat} {v2 : Nat} (h : pg_At S Λ YX1_judge d 0 [(0, .ref v0), (1, .ref v1), (2, .ref v2)] [] M P) : pg_Ev S Λ YX1_judge d [.ref v0, .ref v1, .ref v2] M P := pg_Ev.of (by decide) (by first | decide | exact Nat.le_of_ble_eq_true rfl) h
theorem sX1_canDo_0 {v0 : Nat} {v1 : Nat} {v2 : Nat} {v3 : Int32} {Q0 : Int32 → pg_M → Prop} {Q1 : Int32 → pg_M → Prop} {Q2 : Int32 → pg_M → Prop} {Q3 : Int32 → pg_M → Prop}
    (h0 : pg_isX1 Λ v0)
    (h1 : pg_isX9 Λ v2)
    (b0 : vp_in v3 30)
    (e0 : ((M.1 (v0 + 1) v3.toNatClampNeg) = 11) → pg_Ev S Λ YX9_hangUp d [.ref v2, .ref v1, .int (M.1 (v0 + 2) v3.toNatClampNeg), .int (M.1 (v0 + 3) v3.toNatClampNeg)] M (fun r M' => ∃ x, r = some (.int x) ∧ Q0 x M'))
    (k0 : ((M.1 (v0 + 1) v3.toNatClampNeg) = 11) → ∀ x1 M1, Q0 x1 M1 → P (some (.int x1)) M1)
    (b1 : ((M.1 (v0 + 1) v3.toNatClampNeg) = 11) → ∀ x1 M1, Q0 x1 M1 → narrow .boolean (.int x1) = .int x1)
    (e1 : (¬ (M.1 (v0 + 1) v3.toNatClampNeg) = 11) → ((M.1 (v0 + 1) v3.toNatClampNeg) = 12) → pg_Ev S Λ YX9_takeIn d [.ref v2, .ref v1, .int (M.1 (v0 + 2) v3.toNatClampNeg)] M (fun r M' => ∃ x, r = some (.int x) ∧ Q1 x M'))
    (k1 : (¬ (M.1 (v0 + 1) v3.toNatClampNeg) = 11) → ((M.1 (v0 + 1) v3.toNatClampNeg) = 12) → ∀ x2 M2, Q1 x2 M2 → P (some (.int x2)) M2)
    (b2 : (¬ (M.1 (v0 + 1) v3.toNatClampNeg) = 11) → ((M.1 (v0 + 1) v3.toNatClampNeg) = 12) → ∀ x2 M2, Q1 x2 M2 → narrow .boolean (.int x2) = .int x2)
    (e2 : (¬ (M.1 (v0 + 1) v3.toNatClampNeg) = 11) → (¬ (M.1 (v0 + 1) v3.toNatClampNeg) = 12) → ((M.1 (v0 + 1) v3.toNatClampNeg) = 13) → pg_Ev S Λ YX9_washOut d [.ref v2, .ref v1, .int (M.1 (v0 + 2) v3.toNatClampNeg)] M (fun r M' => ∃ x, r = some (.int x) ∧ Q2 x M'))
    (k2 : (¬ (M.1 (v0 + 1) v3.toNatClampNeg) = 11) → (¬ (M.1 (v0 + 1) v3.toNatClampNeg) = 12) → ((M.1 (v0 + 1) v3.toNatClampNeg) = 13) → ∀ x3 M3, Q2 x3 M3 → (x3 = (-1)) → P (some (.int 0)) M3)
    (k3 : (¬ (M.1 (v0 + 1) v3.toNatClampNeg) = 11) → (¬ (M.1 (v0 + 1) v3.toNatClampNeg) = 12) → ((M.1 (v0 + 1) v3.toNatClampNeg) = 13) → ∀ x3 M3, Q2 x3 M3 → (¬ x3 = (-1)) → P (some (.int 1)) M3)
    (e3 : (¬ (M.1 (v0 + 1) v3.toNatClampNeg) = 11) → (¬ (M.1 (v0 + 1) v3.toNatClampNeg) = 12) → (¬ (M.1 (v0 + 1) v3.toNatClampNeg) = 13) → pg_Ev S Λ YX9_addPeg d [.ref v2, .int (M.1 (v0 + 3) v3.toNatClampNeg)] M (fun r M' => ∃ x, r = some (.int x) ∧ Q3 x M'))
    (k4 : (¬ (M.1 (v0 + 1) v3.toNatClampNeg) = 11) → (¬ (M.1 (v0 + 1) v3.toNatClampNeg) = 12) → (¬ (M.1 (v0 + 1) v3.toNatClampNeg) = 13) → ∀ x4 M4, Q3 x4 M4 → (x4 = (-1)) → P (some (.int 0)) M4)
    (k5 : (¬ (M.1 (v0 + 1) v3.toNatClampNeg) = 11) → (¬ (M.1 (v0 + 1) v3.toNatClampNeg) = 12) → (¬ (M.1 (v0 + 1) v3.toNatClampNeg) = 13) → ∀ x4 M4, Q3 x4 M4 → (¬ x4 = (-1)) → P (some (.int 1)) M4) :
    pg_At S Λ YX1_canDo (d + 1) 0 [(0, .ref v0), (1, .ref v1), (2, .ref v2), (3, .int v3)] [] M P := by
  refine pg_aload_n (pc := 0) (i := 0) (j := 0) (x := v0) dX1_canDo_0 rfl rfl ?_
  refine gfX1_9 (pc := 1) rfl h0 dX1_canDo_1 ?_
  refine pg_iload_n (pc := 4) (i := 3) (j := 3) (x := v3) dX1_canDo_4 rfl rfl ?_
  refine pg_iald (pc := 5) h0.2.1 b0 dX1_canDo_5 ?_
  by_cases c0 : (M.1 (v0 + 1) v3.toNatClampNeg) = 11
  · refine pg_tableIn (pc := 6) (tgt := 32) dX1_canDo_6 (by rw [c0]; decide) (by rw [c0]; decide) (by rw [c0]; rfl) (by decide) ?_
    refine pg_aload_n (pc := 32) (i := 2) (j := 2) (x := v2) dX1_canDo_32 rfl rfl ?_
    refine pg_aload_n (pc := 33) (i := 1) (j := 1) (x := v1) dX1_canDo_33 rfl rfl ?_
    refine pg_aload_n (pc := 34) (i := 0) (j := 0) (x := v0) dX1_canDo_34 rfl rfl ?_
    refine gfX1_15 (pc := 35) rfl h0 dX1_canDo_35 ?_
    refine pg_iload_n (pc := 38) (i := 3) (j := 3) (x := v3) dX1_canDo_38 rfl rfl ?_
    refine pg_iald (pc := 39) h0.2.2.1 b0 dX1_canDo_39 ?_
    refine pg_aload_n (pc := 40) (i := 0) (j := 0) (x := v0) dX1_canDo_40 rfl rfl ?_
    refine gfX1_18 (pc := 41) rfl h0 dX1_canDo_41 ?_
    refine pg_iload_n (pc := 44) (i := 3) (j := 3) (x := v3) dX1_canDo_44 rfl rfl ?_
    refine pg_iald (pc := 45) h0.2.2.2 b0 dX1_canDo_45 ?_
    refine pg_callV (pc := 46) (As := [.ref v1, .int (M.1 (v0 + 2) v3.toNatClampNeg), .int (M.1 (v0 + 3) v3.toNatClampNeg)]) (st := []) okX9_hangUp lkX1_45 rfl h1.1 rfl (Nat.le_refl _) (Nat.le_of_ble_eq_true rfl) (e0 c0) dX1_canDo_46 (fun r1 M1 w1 => ?_)
    obtain ⟨x1, rfl, w1⟩ := w1
    exact pg_zret (pc := 49) rfl (b1 c0 x1 M1 w1) dX1_canDo_49 (k0 c0 x1 M1 w1)
  by_cases c1 : (M.1 (v0 + 1) v3.toNatClampNeg) = 12
  · refine pg_tableIn (pc := 6) (tgt := 50) dX1_canDo_6 (by rw [c1]; decide) (by rw [c1]; decide) (by rw [c1]; rfl) (by decide) ?_
    refine pg_aload_n (pc := 50) (i := 2) (j := 2) (x := v2) dX1_canDo_50 rfl rfl ?_
    refine pg_aload_n (pc := 51) (i := 1) (j := 1) (x := v1) dX1_canDo_51 rfl rfl ?_
    refine pg_aload_n (pc := 52) (i := 0) (j := 0) (x := v0) dX1_canDo_52 rfl rfl ?_
    refine gfX1_15 (pc := 53) rfl h0 dX1_canDo_53 ?_
    refine pg_iload_n (pc := 56) (i := 3) (j := 3) (x := v3) dX1_canDo_56 rfl rfl ?_
    refine pg_iald (pc := 57) h0.2.2.1 b0 dX1_canDo_57 ?_
    refine pg_callV (pc := 58) (As := [.ref v1, .int (M.1 (v0 + 2) v3.toNatClampNeg)]) (st := []) okX9_takeIn lkX1_49 rfl h1.1 rfl (Nat.le_refl _) (Nat.le_of_ble_eq_true rfl) (e1 c0 c1) dX1_canDo_58 (fun r2 M2 w2 => ?_)
    obtain ⟨x2, rfl, w2⟩ := w2
    exact pg_zret (pc := 61) rfl (b2 c0 c1 x2 M2 w2) dX1_canDo_61 (k1 c0 c1 x2 M2 w2)
  by_cases c2 : (M.1 (v0 + 1) v3.toNatClampNeg) = 13
  · refine pg_tableIn (pc := 6) (tgt := 62) dX1_canDo_6 (by rw [c2]; decide) (by rw [c2]; decide) (by rw [c2]; rfl) (by decide) ?_
    refine pg_aload_n (pc := 62) (i := 2) (j := 2) (x := v2) dX1_canDo_62 rfl rfl ?_
    refine pg_aload_n (pc := 63) (i := 1) (j := 1) (x := v1) dX1_canDo_63 rfl rfl ?_
    refine pg_aload_n (pc := 64) (i := 0) (j := 0) (x := v0) dX1_canDo_64 rfl rfl ?_
    refine gfX1_15 (pc := 65) rfl h0 dX1_canDo_65 ?_
    refine pg_iload_n (pc := 68) (i := 3) (j := 3) (x := v3) dX1_canDo_68 rfl rfl ?_
    refine pg_iald (pc := 69) h0.2.2.1 b0 dX1_canDo_69 ?_
    refine pg_callV (pc := 70) (As := [.ref v1, .int (M.1 (v0 + 2) v3.toNatClampNeg)]) (st := []) okX9_washOut lkX1_53 rfl h1.1 rfl (Nat.le_refl _) (Nat.le_of_ble_eq_true rfl) (e2 c0 c1 c2) dX1_canDo_70 (fun r3 M3 w3 => ?_)
    obtain ⟨x3, rfl, w3⟩ := w3
    refine pg_iconst (pc := 73) (v := (-1)) dX1_canDo_73 (by decide) ?_
    refine pg_icmp_eq (pc := 74) (tgt := 81) dX1_canDo_74 (by decide) (fun c3 => ?_) (fun c3 => ?_)
    · skip
      refine pg_iconst (pc := 81) (v := 0) dX1_canDo_81 (by decide) ?_
      exact pg_zret (pc := 82) rfl rfl dX1_canDo_82 (k2 c0 c1 c2 x3 M3 w3 c3)
    · skip
      refine pg_iconst (pc := 77) (v := 1) dX1_canDo_77 (by decide) ?_
      refine pg_goto (pc := 78) (tgt := 82) dX1_canDo_78 (by decide) ?_
      exact pg_zret (pc := 82) rfl rfl dX1_canDo_82 (k3 c0 c1 c2 x3 M3 w3 c3)
  have g0 : (M.1 (v0 + 1) v3.toNatClampNeg).toInt ≠ 11 := pg_ne c0 (by decide)
  have g1 : (M.1 (v0 + 1) v3.toNatClampNeg).toInt ≠ 12 := pg_ne c1 (by decide)
  have g2 : (M.1 (v0 + 1) v3.toNatClampNeg).toInt ≠ 13 := pg_ne c2 (by decide)
  refine pg_tableOut (pc := 6) (tgt := 83) dX1_canDo_6 (by omega) (by decide) ?_
  refine pg_aload_n (pc := 83) (i := 2) (j := 2) (x := v2) dX1_canDo_83 rfl rfl ?_
  refine pg_aload_n (pc := 84) (i := 0) (j := 0) (x := v0) dX1_canDo_84 rfl rfl ?_
  refine gfX1_18 (pc := 85) rfl h0 dX1_canDo_85 ?_
  refine pg_iload_n (pc := 88) (i := 3) (j := 3) (x := v3) dX1_canDo_88 rfl rfl ?_
  refine pg_iald (pc := 89) h0.2.2.2 b0 dX1_canDo_89 ?_
  refine pg_callV (pc := 90) (As := [.int (M.1 (v0 + 3) v3.toNatClampNeg)]) (st := []) okX9_addPeg lkX1_56 rfl h1.1 rfl (Nat.le_refl _) (Nat.le_of_ble_eq_true rfl) (e3 c0 c1 c2) dX1_canDo_90 (fun r4 M4 w4 => ?_)
  obtain ⟨x4, rfl, w4⟩ := w4
  refine pg_iconst (pc := 93) (v := (-1)) dX1_canDo_93 (by decide) ?_
  refine pg_icmp_eq (pc := 94) (tgt := 101) dX1_canDo_94 (by decide) (fun c3 => ?_) (fun c3 => ?_)
  · skip
    refine pg_iconst (pc := 101) (v := 0) dX1_canDo_101 (by decide) ?_
    exact pg_zret (pc := 102) rfl rfl dX1_canDo_102 (k4 c0 c1 c2 x4 M4 w4 c3)
  · skip
    refine pg_iconst (pc := 97) (v := 1) dX1_canDo_97 (by decide) ?_
    refine pg_goto (pc := 98) (tgt := 102) dX1_canDo_98 (by decide) ?_
    exact pg_zret (pc := 102) rfl rfl dX1_canDo_102 (k5 c0 c1 c2 x4 M4 w4 c3)
theorem oX1_canDo {d : Nat} {v0 : Nat} {v1 : Nat} {v2 : Nat} {v3 : Int32} (h : pg_At S Λ YX1_canDo d 0 [(0, .ref v0), (1, .ref v1), (2, .ref v2), (3, .int v3)] [] M P) : pg_Ev S Λ YX1_canDo d [.ref v0, .ref v1, .ref v2, .int v3] M P := pg_Ev.of (by decide) (by first | decide | exact Nat.le_of_ble_eq_true rfl) h
theorem sX2_clear_0 {v0 : Nat} 
    (h0 : pg_isX2 Λ v0)
    (k0 : P none (pg_si M v0 5 0)) :
    pg_At S Λ YX2_clear d 0 [(0, .ref v0)] [] M P := by
  refine pg_aload_n (pc := 0) (i := 0) (j := 0) (x := v0) dX2_clear_0 rfl rfl ?_
  refine pg_iconst (pc := 1) (v := 0) dX2_clear_1 (by decide) ?_
  refine pfX2_27 (pc := 2) rfl h0 dX2_clear_2 ?_
  exact pg_vret (pc := 5) rfl dX2_clear_5 k0
theorem oX2_clear {d : Nat} {v0 : Nat} (h : pg_At S Λ YX2_clear d 0 [(0, .ref v0)] [] M P) : pg_Ev S Λ YX2_clear d [.ref v0] M P := pg_Ev.of (by decide) (by first | decide | exact Nat.le_of_ble_eq_true rfl) h
theorem sX2_copyFrom_0 {v0 : Nat} {v1 : Nat} 
    (h0 : pg_isX2 Λ v1)
    (h1 : pg_isX2 Λ v0)
    (k0 : ∀ N1, N1 = pg_sa M (v0 + 1) (va_cpy (M.1 (v1 + 1)) (M.1 (v0 + 1)) (0 : Int32).toNatClampNeg (0 : Int32).toNatClampNeg (8 : Int32).toNatClampNeg) → ∀ N2, N2 = pg_sa N1 (v0 + 2) (va_cpy (N1.1 (v1 + 2)) (N1.1 (v0 + 2)) (0 : Int32).toNatClampNeg (0 : Int32).toNatClampNeg (8 : Int32).toNatClampNeg) → ∀ N3, N3 = pg_sa N2 (v0 + 3) (va_cpy (N2.1 (v1 + 3)) (N2.1 (v0 + 3)) (0 : Int32).toNatClampNeg (0 : Int32).toNatClampNeg (8 : Int32).toNatClampNeg) → P none (pg_si N3 v0 5 (N3.1 v1 5))) :
    pg_At S Λ YX2_copyFrom (d + 1) 0 [(0, .ref v0), (1, .ref v1)] [] M P := by
  refine pg_aload_n (pc := 0) (i := 1) (j := 1) (x := v1) dX2_copyFrom_0 rfl rfl ?_
  refine gfX2_9 (pc := 1) rfl h0 dX2_copyFrom_1 ?_
  refine pg_iconst (pc := 4) (v := 0) dX2_copyFrom_4 (by decide) ?_
  refine pg_aload_n (pc := 5) (i := 0) (j := 0) (x := v0) dX2_copyFrom_5 rfl rfl ?_
  refine gfX2_9 (pc := 6) rfl h1 dX2_copyFrom_6 ?_
  refine pg_iconst (pc := 9) (v := 0) dX2_copyFrom_9 (by decide) ?_
  refine pg_bipush (pc := 10) (v := 8) dX2_copyFrom_10 (by decide) ?_
  refine pg_copyi (pc := 12) (st := []) lkX2_31 (Nat.le_of_ble_eq_true rfl) h0.2.1 h1.2.1 (by decide) (by decide) (by decide) (by decide) (by decide) dX2_copyFrom_12 ?_
  refine pg_named (fun N1 u1 => ?_)
  refine pg_aload_n (pc := 15) (i := 1) (j := 1) (x := v1) dX2_copyFrom_15 rfl rfl ?_
  refine gfX2_15 (pc := 16) rfl h0 dX2_copyFrom_16 ?_
  refine pg_iconst (pc := 19) (v := 0) dX2_copyFrom_19 (by decide) ?_
  refine pg_aload_n (pc := 20) (i := 0) (j := 0) (x := v0) dX2_copyFrom_20 rfl rfl ?_
  refine gfX2_15 (pc := 21) rfl h1 dX2_copyFrom_21 ?_
  refine pg_iconst (pc := 24) (v := 0) dX2_copyFrom_24 (by decide) ?_
  refine pg_bipush (pc := 25) (v := 8) dX2_copyFrom_25 (by decide) ?_
  refine pg_copyi (pc := 27) (st := []) lkX2_31 (Nat.le_of_ble_eq_true rfl) h0.2.2.1 h1.2.2.1 (by decide) (by decide) (by decide) (by decide) (by decide) dX2_copyFrom_27 ?_
  refine pg_named (fun N2 u2 => ?_)
  refine pg_aload_n (pc := 30) (i := 1) (j := 1) (x := v1) dX2_copyFrom_30 rfl rfl ?_
  refine gfX2_18 (pc := 31) rfl h0 dX2_copyFrom_31 ?_
  refine pg_iconst (pc := 34) (v := 0) dX2_copyFrom_34 (by decide) ?_
  refine pg_aload_n (pc := 35) (i := 0) (j := 0) (x := v0) dX2_copyFrom_35 rfl rfl ?_
  refine gfX2_18 (pc := 36) rfl h1 dX2_copyFrom_36 ?_
  refine pg_iconst (pc := 39) (v := 0) dX2_copyFrom_39 (by decide) ?_
  refine pg_bipush (pc := 40) (v := 8) dX2_copyFrom_40 (by decide) ?_
  refine pg_copyi (pc := 42) (st := []) lkX2_31 (Nat.le_of_ble_eq_true rfl) h0.2.2.2.1 h1.2.2.2.1 (by decide) (by decide) (by decide) (by decide) (by decide) dX2_copyFrom_42 ?_
  refine pg_named (fun N3 u3 => ?_)
  refine pg_aload_n (pc := 45) (i := 0) (j := 0) (x := v0) dX2_copyFrom_45 rfl rfl ?_
  refine pg_aload_n (pc := 46) (i := 1) (j := 1) (x := v1) dX2_copyFrom_46 rfl rfl ?_
  refine gfX2_27 (pc := 47) rfl h0 dX2_copyFrom_47 ?_
  refine pfX2_27 (pc := 50) rfl h1 dX2_copyFrom_50 ?_
  exact pg_vret (pc := 53) rfl dX2_copyFrom_53 (k0 N1 u1 N2 u2 N3 u3)
theorem oX2_copyFrom {d : Nat} {v0 : Nat} {v1 : Nat} (h : pg_At S Λ YX2_copyFrom d 0 [(0, .ref v0), (1, .ref v1)] [] M P) : pg_Ev S Λ YX2_copyFrom d [.ref v0, .ref v1] M P := pg_Ev.of (by decide) (by first | decide | exact Nat.le_of_ble_eq_true rfl) h
theorem sX2_add_0 {v0 : Nat} {v1 : Int32} {v2 : Int32} {v3 : Int32} 
    (h0 : pg_isX2 Λ v0)
    (b0 : ((M.1 v0 5) < 8) → vp_in (M.1 v0 5) 8)
    (b1 : ((M.1 v0 5) < 8) → vp_in ((pg_si M (v0 + 1) (M.1 v0 5).toNatClampNeg v1).1 v0 5) 8)
    (b2 : ((M.1 v0 5) < 8) → ∀ N1, N1 = pg_si (pg_si M (v0 + 1) (M.1 v0 5).toNatClampNeg v1) (v0 + 2) ((pg_si M (v0 + 1) (M.1 v0 5).toNatClampNeg v1).1 v0 5).toNatClampNeg v2 → vp_in (N1.1 v0 5) 8)
    (k0 : ((M.1 v0 5) < 8) → ∀ N1, N1 = pg_si (pg_si M (v0 + 1) (M.1 v0 5).toNatClampNeg v1) (v0 + 2) ((pg_si M (v0 + 1) (M.1 v0 5).toNatClampNeg v1).1 v0 5).toNatClampNeg v2 → ∀ N2, N2 = pg_si (pg_si N1 (v0 + 3) (N1.1 v0 5).toNatClampNeg v3) v0 5 (((pg_si N1 (v0 + 3) (N1.1 v0 5).toNatClampNeg v3).1 v0 5) + 1) → P (some (.int 1)) N2)
    (k1 : (¬ (M.1 v0 5) < 8) → P (some (.int 0)) M) :
    pg_At S Λ YX2_add d 0 [(0, .ref v0), (1, .int v1), (2, .int v2), (3, .int v3)] [] M P := by
  refine pg_aload_n (pc := 0) (i := 0) (j := 0) (x := v0) dX2_add_0 rfl rfl ?_
  refine gfX2_27 (pc := 1) rfl h0 dX2_add_1 ?_
  refine pg_bipush (pc := 4) (v := 8) dX2_add_4 (by decide) ?_
  refine pg_icmp_lt (pc := 6) (tgt := 11) dX2_add_6 (by decide) (fun c0 => ?_) (fun c0 => ?_)
  · skip
    refine pg_aload_n (pc := 11) (i := 0) (j := 0) (x := v0) dX2_add_11 rfl rfl ?_
    refine gfX2_9 (pc := 12) rfl h0 dX2_add_12 ?_
    refine pg_aload_n (pc := 15) (i := 0) (j := 0) (x := v0) dX2_add_15 rfl rfl ?_
    refine gfX2_27 (pc := 16) rfl h0 dX2_add_16 ?_
    refine pg_iload_n (pc := 19) (i := 1) (j := 1) (x := v1) dX2_add_19 rfl rfl ?_
    refine pg_iast (pc := 20) h0.2.1 (b0 c0) dX2_add_20 ?_
    refine pg_aload_n (pc := 21) (i := 0) (j := 0) (x := v0) dX2_add_21 rfl rfl ?_
    refine gfX2_15 (pc := 22) rfl h0 dX2_add_22 ?_
    refine pg_aload_n (pc := 25) (i := 0) (j := 0) (x := v0) dX2_add_25 rfl rfl ?_
    refine gfX2_27 (pc := 26) rfl h0 dX2_add_26 ?_
    refine pg_iload_n (pc := 29) (i := 2) (j := 2) (x := v2) dX2_add_29 rfl rfl ?_
    refine pg_iast (pc := 30) h0.2.2.1 (b1 c0) dX2_add_30 ?_
    refine pg_named (fun N1 u1 => ?_)
    refine pg_aload_n (pc := 31) (i := 0) (j := 0) (x := v0) dX2_add_31 rfl rfl ?_
    refine gfX2_18 (pc := 32) rfl h0 dX2_add_32 ?_
    refine pg_aload_n (pc := 35) (i := 0) (j := 0) (x := v0) dX2_add_35 rfl rfl ?_
    refine gfX2_27 (pc := 36) rfl h0 dX2_add_36 ?_
    refine pg_iload_n (pc := 39) (i := 3) (j := 3) (x := v3) dX2_add_39 rfl rfl ?_
    refine pg_iast (pc := 40) h0.2.2.2.1 (b2 c0 N1 u1) dX2_add_40 ?_
    refine pg_aload_n (pc := 41) (i := 0) (j := 0) (x := v0) dX2_add_41 rfl rfl ?_
    refine pg_dup (pc := 42) dX2_add_42 rfl ?_
    refine gfX2_27 (pc := 43) rfl h0 dX2_add_43 ?_
    refine pg_iconst (pc := 46) (v := 1) dX2_add_46 (by decide) ?_
    refine pg_iadd (pc := 47) dX2_add_47 ?_
    refine pfX2_27 (pc := 48) rfl h0 dX2_add_48 ?_
    refine pg_named (fun N2 u2 => ?_)
    refine pg_iconst (pc := 51) (v := 1) dX2_add_51 (by decide) ?_
    exact pg_zret (pc := 52) rfl rfl dX2_add_52 (k0 c0 N1 u1 N2 u2)
  · skip
    refine pg_iconst (pc := 9) (v := 0) dX2_add_9 (by decide) ?_
    exact pg_zret (pc := 10) rfl rfl dX2_add_10 (k1 c0)
theorem oX2_add {d : Nat} {v0 : Nat} {v1 : Int32} {v2 : Int32} {v3 : Int32} (h : pg_At S Λ YX2_add d 0 [(0, .ref v0), (1, .int v1), (2, .int v2), (3, .int v3)] [] M P) : pg_Ev S Λ YX2_add d [.ref v0, .int v1, .int v2, .int v3] M P := pg_Ev.of (by decide) (by first | decide | exact Nat.le_of_ble_eq_true rfl) h
theorem sX2_startBits_0 {v0 : Nat} {v1 : Nat} 
    (k0 : pg_At S Λ YX2_startBits (d + 1) 4 [(0, .ref v0), (1, .ref v1), (2, .int 0), (3, .int 0)] [] M P) :
    pg_At S Λ YX2_startBits (d + 1) 0 [(0, .ref v0), (1, .ref v1)] [] M P := by
  refine pg_iconst (pc := 0) (v := 0) dX2_startBits_0 (by decide) ?_
  refine pg_istore_n (pc := 1) (i := 2) (ls' := [(2, .int 0), (0, .ref v0), (1, .ref v1)]) dX2_startBits_1 rfl (by decide) rfl ?_
  refine pg_iconst (pc := 2) (v := 0) dX2_startBits_2 (by decide) ?_
  refine pg_istore_n (pc := 3) (i := 3) (ls' := [(3, .int 0), (2, .int 0), (0, .ref v0), (1, .ref v1)]) dX2_startBits_3 rfl (by decide) rfl ?_
  refine pg_drop (ks := [2, 3, 1, 0]) (ls' := [(0, .ref v0), (1, .ref v1), (2, .int 0), (3, .int 0)]) rfl ?_
  exact k0
theorem sX2_startBits_4 {v0 : Nat} {v1 : Nat} {v2 : Int32} {v3 : Int32} {Q0 : Int32 → pg_M → Prop}
    (h0 : pg_isX5 Λ v1)
    (h1 : pg_isX2 Λ v0)
    (k0 : ((M.1 v1 12) ≤ v3) → P (some (.int v2)) M)
    (e0 : (¬ (M.1 v1 12) ≤ v3) → pg_Ev S Λ YX2_allSo d [.ref v0, .ref v1, .int v3] M (fun r M' => ∃ x, r = some (.int x) ∧ Q0 x M'))
    (k1 : (¬ (M.1 v1 12) ≤ v3) → ∀ x1 M1, Q0 x1 M1 → (x1 = 0) → pg_At S Λ YX2_startBits (d + 1) 4 [(0, .ref v0), (1, .ref v1), (2, .int v2), (3, .int (v3 + 1))] [] M1 P)
    (k2 : (¬ (M.1 v1 12) ≤ v3) → ∀ x1 M1, Q0 x1 M1 → (¬ x1 = 0) → pg_At S Λ YX2_startBits (d + 1) 4 [(0, .ref v0), (1, .ref v1), (2, .int (v2 ||| ((1 : Int32) <<< (v3 &&& 31)))), (3, .int (v3 + 1))] [] M1 P) :
    pg_At S Λ YX2_startBits (d + 1) 4 [(0, .ref v0), (1, .ref v1), (2, .int v2), (3, .int v3)] [] M P := by
  refine pg_iload_n (pc := 4) (i := 3) (j := 3) (x := v3) dX2_startBits_4 rfl rfl ?_
  refine pg_aload_n (pc := 5) (i := 1) (j := 1) (x := v1) dX2_startBits_5 rfl rfl ?_
  refine gfX2_37 (pc := 6) rfl h0 dX2_startBits_6 ?_
  refine pg_icmp_ge (pc := 9) (tgt := 33) dX2_startBits_9 (by decide) (fun c0 => ?_) (fun c0 => ?_)
  · skip
    refine pg_iload_n (pc := 33) (i := 2) (j := 2) (x := v2) dX2_startBits_33 rfl rfl ?_
    exact pg_iret (pc := 34) rfl dX2_startBits_34 (k0 c0)
  · skip
    refine pg_aload_n (pc := 12) (i := 0) (j := 0) (x := v0) dX2_startBits_12 rfl rfl ?_
    refine pg_aload_n (pc := 13) (i := 1) (j := 1) (x := v1) dX2_startBits_13 rfl rfl ?_
    refine pg_iload_n (pc := 14) (i := 3) (j := 3) (x := v3) dX2_startBits_14 rfl rfl ?_
    refine pg_callV (pc := 15) (As := [.ref v1, .int v3]) (st := []) okX2_allSo lkX2_42 rfl h1.1 rfl (Nat.le_refl _) (Nat.le_of_ble_eq_true rfl) (e0 c0) dX2_startBits_15 (fun r1 M1 w1 => ?_)
    obtain ⟨x1, rfl, w1⟩ := w1
    refine pg_if_eq (pc := 18) (tgt := 27) dX2_startBits_18 (by decide) (fun c1 => ?_) (fun c1 => ?_)
    · skip
      refine pg_iinc (pc := 27) (i := 3) (j := 3) (x := v3) (v := v3 + 1) (ls' := [(3, .int (v3 + 1)), (0, .ref v0), (1, .ref v1), (2, .int v2)]) dX2_startBits_27 rfl rfl (by decide) rfl ?_
      refine pg_goto (pc := 30) (tgt := 4) dX2_startBits_30 (by decide) ?_
      refine pg_drop (ks := [1, 2, 3, 0]) (ls' := [(0, .ref v0), (1, .ref v1), (2, .int v2), (3, .int (v3 + 1))]) rfl ?_
      exact k1 c0 x1 M1 w1 c1
    · skip
      refine pg_iload_n (pc := 21) (i := 2) (j := 2) (x := v2) dX2_startBits_21 rfl rfl ?_
      refine pg_iconst (pc := 22) (v := 1) dX2_startBits_22 (by decide) ?_
      refine pg_iload_n (pc := 23) (i := 3) (j := 3) (x := v3) dX2_startBits_23 rfl rfl ?_
      refine pg_ishl (pc := 24) dX2_startBits_24 ?_
      refine pg_ior (pc := 25) dX2_startBits_25 ?_
      refine pg_istore_n (pc := 26) (i := 2) (ls' := [(2, .int (v2 ||| ((1 : Int32) <<< (v3 &&& 31)))), (0, .ref v0), (1, .ref v1), (3, .int v3)]) dX2_startBits_26 rfl (by decide) rfl ?_
      refine pg_iinc (pc := 27) (i := 3) (j := 3) (x := v3) (v := v3 + 1) (ls' := [(3, .int (v3 + 1)), (2, .int (v2 ||| ((1 : Int32) <<< (v3 &&& 31)))), (0, .ref v0), (1, .ref v1)]) dX2_startBits_27 rfl rfl (by decide) rfl ?_
      refine pg_goto (pc := 30) (tgt := 4) dX2_startBits_30 (by decide) ?_
      refine pg_drop (ks := [2, 3, 1, 0]) (ls' := [(0, .ref v0), (1, .ref v1), (2, .int (v2 ||| ((1 : Int32) <<< (v3 &&& 31)))), (3, .int (v3 + 1))]) rfl ?_
      exact k2 c0 x1 M1 w1 c1
theorem oX2_startBits {d : Nat} {v0 : Nat} {v1 : Nat} (h : pg_At S Λ YX2_startBits d 0 [(0, .ref v0), (1, .ref v1)] [] M P) : pg_Ev S Λ YX2_startBits d [.ref v0, .ref v1] M P := pg_Ev.of (by decide) (by first | decide | exact Nat.le_of_ble_eq_true rfl) h
theorem sX2_allSo_0 {v0 : Nat} {v1 : Nat} {v2 : Int32} 
    (k0 : pg_At S Λ YX2_allSo (d + 1) 2 [(0, .ref v0), (1, .ref v1), (2, .int v2), (3, .int 0)] [] M P) :
    pg_At S Λ YX2_allSo (d + 1) 0 [(0, .ref v0), (1, .ref v1), (2, .int v2)] [] M P := by
  refine pg_iconst (pc := 0) (v := 0) dX2_allSo_0 (by decide) ?_
  refine pg_istore_n (pc := 1) (i := 3) (ls' := [(3, .int 0), (0, .ref v0), (1, .ref v1), (2, .int v2)]) dX2_allSo_1 rfl (by decide) rfl ?_
  refine pg_drop (ks := [1, 2, 3, 0]) (ls' := [(0, .ref v0), (1, .ref v1), (2, .int v2), (3, .int 0)]) rfl ?_
  exact k0
theorem sX2_allSo_2 {v0 : Nat} {v1 : Nat} {v2 : Int32} {v3 : Int32} 
    (h0 : pg_isX2 Λ v0)
    (k0 : ((M.1 v0 5) ≤ v3) → P (some (.int 1)) M)
    (k1 : (¬ (M.1 v0 5) ≤ v3) → pg_At S Λ YX2_allSo (d + 1) 17 [(0, .ref v0), (1, .ref v1), (2, .int v2), (3, .int v3), (4, .int 9), (5, .int 0)] [] M P) :
    pg_At S Λ YX2_allSo (d + 1) 2 [(0, .ref v0), (1, .ref v1), (2, .int v2), (3, .int v3)] [] M P := by
  refine pg_iload_n (pc := 2) (i := 3) (j := 3) (x := v3) dX2_allSo_2 rfl rfl ?_
  refine pg_aload_n (pc := 3) (i := 0) (j := 0) (x := v0) dX2_allSo_3 rfl rfl ?_
  refine gfX2_27 (pc := 4) rfl h0 dX2_allSo_4 ?_
  refine pg_icmp_ge (pc := 7) (tgt := 75) dX2_allSo_7 (by decide) (fun c0 => ?_) (fun c0 => ?_)
  · skip
    refine pg_iconst (pc := 75) (v := 1) dX2_allSo_75 (by decide) ?_
    exact pg_zret (pc := 76) rfl rfl dX2_allSo_76 (k0 c0)
  · skip
    refine pg_bipush (pc := 10) (v := 9) dX2_allSo_10 (by decide) ?_
    refine pg_istore (pc := 12) (i := 4) (ls' := [(4, .int 9), (0, .ref v0), (1, .ref v1), (2, .int v2), (3, .int v3)]) dX2_allSo_12 (by decide) rfl ?_
    refine pg_iconst (pc := 14) (v := 0) dX2_allSo_14 (by decide) ?_
    refine pg_istore (pc := 15) (i := 5) (ls' := [(5, .int 0), (4, .int 9), (0, .ref v0), (1, .ref v1), (2, .int v2), (3, .int v3)]) dX2_allSo_15 (by decide) rfl ?_
    refine pg_drop (ks := [2, 3, 4, 5, 1, 0]) (ls' := [(0, .ref v0), (1, .ref v1), (2, .int v2), (3, .int v3), (4, .int 9), (5, .int 0)]) rfl ?_
    exact k1 c0
theorem sX2_allSo_17 {v0 : Nat} {v1 : Nat} {v2 : Int32} {v3 : Int32} {v4 : Int32} {v5 : Int32} {Q0 : Int32 → pg_M → Prop} {Q1 : Int32 → pg_M → Prop}
    (h0 : pg_isX2 Λ v0)
    (h1 : pg_isX5 Λ v1)
    (b0 : vp_in v3 8)
    (k0 : ((M.1 (v0 + 2) v3.toNatClampNeg) ≤ v5) → (v4 = (M.1 (v0 + 3) v3.toNatClampNeg)) → pg_At S Λ YX2_allSo (d + 1) 2 [(0, .ref v0), (1, .ref v1), (2, .int v2), (3, .int (v3 + 1))] [] M P)
    (k1 : ((M.1 (v0 + 2) v3.toNatClampNeg) ≤ v5) → (¬ v4 = (M.1 (v0 + 3) v3.toNatClampNeg)) → P (some (.int 0)) M)
    (e0 : (¬ (M.1 (v0 + 2) v3.toNatClampNeg) ≤ v5) → pg_Ev S Λ YX5_windAt d [.ref v1, .int (v2 + v5)] M (fun r M' => ∃ x, r = some (.int x) ∧ Q0 x M'))
    (e1 : (¬ (M.1 (v0 + 2) v3.toNatClampNeg) ≤ v5) → ∀ x1 M1, Q0 x1 M1 → pg_Ev S Λ YX5_wetAfter d [.ref v1, .int (M.1 (v0 + 1) v3.toNatClampNeg), .int v4, .int x1] M1 (fun r M' => ∃ x, r = some (.int x) ∧ Q1 x M'))
    (k2 : (¬ (M.1 (v0 + 2) v3.toNatClampNeg) ≤ v5) → ∀ x1 M1, Q0 x1 M1 → ∀ x2 M2, Q1 x2 M2 → pg_At S Λ YX2_allSo (d + 1) 17 [(0, .ref v0), (1, .ref v1), (2, .int v2), (3, .int v3), (4, .int x2), (5, .int (v5 + 1))] [] M2 P) :
    pg_At S Λ YX2_allSo (d + 1) 17 [(0, .ref v0), (1, .ref v1), (2, .int v2), (3, .int v3), (4, .int v4), (5, .int v5)] [] M P := by
  refine pg_iload (pc := 17) (i := 5) (j := 5) (x := v5) dX2_allSo_17 rfl ?_
  refine pg_aload_n (pc := 19) (i := 0) (j := 0) (x := v0) dX2_allSo_19 rfl rfl ?_
  refine gfX2_15 (pc := 20) rfl h0 dX2_allSo_20 ?_
  refine pg_iload_n (pc := 23) (i := 3) (j := 3) (x := v3) dX2_allSo_23 rfl rfl ?_
  refine pg_iald (pc := 24) h0.2.2.1 b0 dX2_allSo_24 ?_
  refine pg_icmp_ge (pc := 25) (tgt := 56) dX2_allSo_25 (by decide) (fun c0 => ?_) (fun c0 => ?_)
  · skip
    refine pg_iload (pc := 56) (i := 4) (j := 4) (x := v4) dX2_allSo_56 rfl ?_
    refine pg_aload_n (pc := 58) (i := 0) (j := 0) (x := v0) dX2_allSo_58 rfl rfl ?_
    refine gfX2_18 (pc := 59) rfl h0 dX2_allSo_59 ?_
    refine pg_iload_n (pc := 62) (i := 3) (j := 3) (x := v3) dX2_allSo_62 rfl rfl ?_
    refine pg_iald (pc := 63) h0.2.2.2.1 b0 dX2_allSo_63 ?_
    refine pg_icmp_eq (pc := 64) (tgt := 69) dX2_allSo_64 (by decide) (fun c1 => ?_) (fun c1 => ?_)
    · skip
      refine pg_iinc (pc := 69) (i := 3) (j := 3) (x := v3) (v := v3 + 1) (ls' := [(3, .int (v3 + 1)), (0, .ref v0), (1, .ref v1), (2, .int v2), (4, .int v4), (5, .int v5)]) dX2_allSo_69 rfl rfl (by decide) rfl ?_
      refine pg_goto (pc := 72) (tgt := 2) dX2_allSo_72 (by decide) ?_
      refine pg_drop (ks := [1, 2, 3, 0]) (ls' := [(0, .ref v0), (1, .ref v1), (2, .int v2), (3, .int (v3 + 1))]) rfl ?_
      exact k0 c0 c1
    · skip
      refine pg_iconst (pc := 67) (v := 0) dX2_allSo_67 (by decide) ?_
      exact pg_zret (pc := 68) rfl rfl dX2_allSo_68 (k1 c0 c1)
  · skip
    refine pg_aload_n (pc := 28) (i := 1) (j := 1) (x := v1) dX2_allSo_28 rfl rfl ?_
    refine pg_aload_n (pc := 29) (i := 0) (j := 0) (x := v0) dX2_allSo_29 rfl rfl ?_
    refine gfX2_9 (pc := 30) rfl h0 dX2_allSo_30 ?_
    refine pg_iload_n (pc := 33) (i := 3) (j := 3) (x := v3) dX2_allSo_33 rfl rfl ?_
    refine pg_iald (pc := 34) h0.2.1 b0 dX2_allSo_34 ?_
    refine pg_iload (pc := 35) (i := 4) (j := 4) (x := v4) dX2_allSo_35 rfl ?_
    refine pg_aload_n (pc := 37) (i := 1) (j := 1) (x := v1) dX2_allSo_37 rfl rfl ?_
    refine pg_iload_n (pc := 38) (i := 2) (j := 2) (x := v2) dX2_allSo_38 rfl rfl ?_
    refine pg_iload (pc := 39) (i := 5) (j := 5) (x := v5) dX2_allSo_39 rfl ?_
    refine pg_iadd (pc := 41) dX2_allSo_41 ?_
    refine pg_callV (pc := 42) (As := [.int (v2 + v5)]) (st := [.int v4, .int (M.1 (v0 + 1) v3.toNatClampNeg), .ref v1]) okX5_windAt lkX2_46 rfl h1.1 rfl (Nat.le_refl _) (Nat.le_of_ble_eq_true rfl) (e0 c0) dX2_allSo_42 (fun r1 M1 w1 => ?_)
    obtain ⟨x1, rfl, w1⟩ := w1
    refine pg_callV (pc := 45) (As := [.int (M.1 (v0 + 1) v3.toNatClampNeg), .int v4, .int x1]) (st := []) okX5_wetAfter lkX2_50 rfl h1.1 rfl (Nat.le_refl _) (Nat.le_of_ble_eq_true rfl) (e1 c0 x1 M1 w1) dX2_allSo_45 (fun r2 M2 w2 => ?_)
    obtain ⟨x2, rfl, w2⟩ := w2
    refine pg_istore (pc := 48) (i := 4) (ls' := [(4, .int x2), (0, .ref v0), (1, .ref v1), (2, .int v2), (3, .int v3), (5, .int v5)]) dX2_allSo_48 (by decide) rfl ?_
    refine pg_iinc (pc := 50) (i := 5) (j := 5) (x := v5) (v := v5 + 1) (ls' := [(5, .int (v5 + 1)), (4, .int x2), (0, .ref v0), (1, .ref v1), (2, .int v2), (3, .int v3)]) dX2_allSo_50 rfl rfl (by decide) rfl ?_
    refine pg_goto (pc := 53) (tgt := 17) dX2_allSo_53 (by decide) ?_
    refine pg_drop (ks := [2, 3, 4, 5, 1, 0]) (ls' := [(0, .ref v0), (1, .ref v1), (2, .int v2), (3, .int v3), (4, .int x2), (5, .int (v5 + 1))]) rfl ?_
    exact k2 c0 x1 M1 w1 x2 M2 w2
theorem oX2_allSo {d : Nat} {v0 : Nat} {v1 : Nat} {v2 : Int32} (h : pg_At S Λ YX2_allSo d 0 [(0, .ref v0), (1, .ref v1), (2, .int v2)] [] M P) : pg_Ev S Λ YX2_allSo d [.ref v0, .ref v1, .int v2] M P := pg_Ev.of (by decide) (by first | decide | exact Nat.le_of_ble_eq_true rfl) h
theorem sX2_bestHours_0 {v0 : Nat} {v1 : Nat} {v2 : Int32} {Q0 : Int32 → pg_M → Prop}
    (h0 : pg_isX2 Λ v0)
    (e0 : pg_Ev S Λ YX2_startBits d [.ref v0, .ref v1] M (fun r M' => ∃ x, r = some (.int x) ∧ Q0 x M'))
    (k0 : ∀ x1 M1, Q0 x1 M1 → pg_At S Λ YX2_bestHours (d + 1) 27 [(0, .ref v0), (1, .ref v1), (2, .int v2), (3, .int x1), (4, .int (pg_bc x1)), (5, .int (-1)), (6, .int 0)] [] (pg_sa M1 (v0 + 4) (fun j => if j < 12 then 9 else M1.1 (v0 + 4) j)) P) :
    pg_At S Λ YX2_bestHours (d + 1) 0 [(0, .ref v0), (1, .ref v1), (2, .int v2)] [] M P := by
  refine pg_aload_n (pc := 0) (i := 0) (j := 0) (x := v0) dX2_bestHours_0 rfl rfl ?_
  refine pg_aload_n (pc := 1) (i := 1) (j := 1) (x := v1) dX2_bestHours_1 rfl rfl ?_
  refine pg_callV (pc := 2) (As := [.ref v1]) (st := []) okX2_startBits lkX2_54 rfl h0.1 rfl (Nat.le_refl _) (Nat.le_of_ble_eq_true rfl) e0 dX2_bestHours_2 (fun r1 M1 w1 => ?_)
  obtain ⟨x1, rfl, w1⟩ := w1
  refine pg_istore_n (pc := 5) (i := 3) (ls' := [(3, .int x1), (0, .ref v0), (1, .ref v1), (2, .int v2)]) dX2_bestHours_5 rfl (by decide) rfl ?_
  refine pg_iload_n (pc := 6) (i := 3) (j := 0) (x := x1) dX2_bestHours_6 rfl rfl ?_
  refine pg_jbc (pc := 7) (st := []) lkX2_58 (Nat.le_of_ble_eq_true rfl) dX2_bestHours_7 ?_
  refine pg_istore (pc := 10) (i := 4) (ls' := [(4, .int (pg_bc x1)), (3, .int x1), (0, .ref v0), (1, .ref v1), (2, .int v2)]) dX2_bestHours_10 (by decide) rfl ?_
  refine pg_iconst (pc := 12) (v := (-1)) dX2_bestHours_12 (by decide) ?_
  refine pg_istore (pc := 13) (i := 5) (ls' := [(5, .int (-1)), (4, .int (pg_bc x1)), (3, .int x1), (0, .ref v0), (1, .ref v1), (2, .int v2)]) dX2_bestHours_13 (by decide) rfl ?_
  refine pg_aload_n (pc := 15) (i := 0) (j := 3) (x := v0) dX2_bestHours_15 rfl rfl ?_
  refine gfX2_21 (pc := 16) rfl h0 dX2_bestHours_16 ?_
  refine pg_bipush (pc := 19) (v := 9) dX2_bestHours_19 (by decide) ?_
  refine pg_jfill (pc := 21) (st := []) lkX2_63 (Nat.le_of_ble_eq_true rfl) h0.2.2.2.2.1 (by decide) dX2_bestHours_21 ?_
  refine pg_iconst (pc := 24) (v := 0) dX2_bestHours_24 (by decide) ?_
  refine pg_istore (pc := 25) (i := 6) (ls' := [(6, .int 0), (5, .int (-1)), (4, .int (pg_bc x1)), (3, .int x1), (0, .ref v0), (1, .ref v1), (2, .int v2)]) dX2_bestHours_25 (by decide) rfl ?_
  refine pg_drop (ks := [4, 5, 6, 3, 2, 1, 0]) (ls' := [(0, .ref v0), (1, .ref v1), (2, .int v2), (3, .int x1), (4, .int (pg_bc x1)), (5, .int (-1)), (6, .int 0)]) rfl ?_
  exact k0 x1 M1 w1
theorem sX2_bestHours_27 {v0 : Nat} {v1 : Nat} {v2 : Int32} {v3 : Int32} {v4 : Int32} {v5 : Int32} {v6 : Int32} {Q0 : Int32 → pg_M → Prop}
    (h0 : pg_isX2 Λ v0)
    (k0 : (12 < v6) → P (some (.int v5)) M)
    (e0 : (¬ 12 < v6) → pg_Ev S Λ YX2_mostAlike d [.ref v0, .int v3] M (fun r M' => ∃ x, r = some (.int x) ∧ Q0 x M'))
    (k1 : (¬ 12 < v6) → ∀ x1 M1, Q0 x1 M1 → (v4 ≤ x1) → pg_At S Λ YX2_bestHours (d + 1) 59 [(0, .ref v0), (1, .ref v1), (2, .int v2), (3, .int v3), (4, .int v4), (5, .int v5), (6, .int v6), (8, .int 0)] [] M1 P)
    (k2 : (¬ 12 < v6) → ∀ x1 M1, Q0 x1 M1 → (¬ v4 ≤ x1) → pg_At S Λ YX2_bestHours (d + 1) 59 [(0, .ref v0), (1, .ref v1), (2, .int v2), (3, .int v3), (4, .int x1), (5, .int v6), (6, .int v6), (8, .int 0)] [] M1 P) :
    pg_At S Λ YX2_bestHours (d + 1) 27 [(0, .ref v0), (1, .ref v1), (2, .int v2), (3, .int v3), (4, .int v4), (5, .int v5), (6, .int v6)] [] M P := by
  refine pg_iload (pc := 27) (i := 6) (j := 6) (x := v6) dX2_bestHours_27 rfl ?_
  refine pg_bipush (pc := 29) (v := 12) dX2_bestHours_29 (by decide) ?_
  refine pg_icmp_gt (pc := 31) (tgt := 108) dX2_bestHours_31 (by decide) (fun c0 => ?_) (fun c0 => ?_)
  · skip
    refine pg_iload (pc := 108) (i := 5) (j := 5) (x := v5) dX2_bestHours_108 rfl ?_
    exact pg_iret (pc := 110) rfl dX2_bestHours_110 (k0 c0)
  · skip
    refine pg_aload_n (pc := 34) (i := 0) (j := 0) (x := v0) dX2_bestHours_34 rfl rfl ?_
    refine pg_iload_n (pc := 35) (i := 3) (j := 3) (x := v3) dX2_bestHours_35 rfl rfl ?_
    refine pg_callV (pc := 36) (As := [.int v3]) (st := []) okX2_mostAlike lkX2_69 rfl h0.1 rfl (Nat.le_refl _) (Nat.le_of_ble_eq_true rfl) (e0 c0) dX2_bestHours_36 (fun r1 M1 w1 => ?_)
    obtain ⟨x1, rfl, w1⟩ := w1
    refine pg_istore (pc := 39) (i := 7) (ls' := [(7, .int x1), (0, .ref v0), (1, .ref v1), (2, .int v2), (3, .int v3), (4, .int v4), (5, .int v5), (6, .int v6)]) dX2_bestHours_39 (by decide) rfl ?_
    refine pg_iload (pc := 41) (i := 7) (j := 0) (x := x1) dX2_bestHours_41 rfl ?_
    refine pg_iload (pc := 43) (i := 4) (j := 5) (x := v4) dX2_bestHours_43 rfl ?_
    refine pg_icmp_ge (pc := 45) (tgt := 56) dX2_bestHours_45 (by decide) (fun c1 => ?_) (fun c1 => ?_)
    · skip
      refine pg_iconst (pc := 56) (v := 0) dX2_bestHours_56 (by decide) ?_
      refine pg_istore (pc := 57) (i := 8) (ls' := [(8, .int 0), (7, .int x1), (0, .ref v0), (1, .ref v1), (2, .int v2), (3, .int v3), (4, .int v4), (5, .int v5), (6, .int v6)]) dX2_bestHours_57 (by decide) rfl ?_
      refine pg_drop (ks := [2, 3, 4, 5, 6, 7, 8, 0]) (ls' := [(0, .ref v0), (1, .ref v1), (2, .int v2), (3, .int v3), (4, .int v4), (5, .int v5), (6, .int v6), (8, .int 0)]) rfl ?_
      exact k1 c0 x1 M1 w1 c1
    · skip
      refine pg_iload (pc := 48) (i := 7) (j := 0) (x := x1) dX2_bestHours_48 rfl ?_
      refine pg_istore (pc := 50) (i := 4) (ls' := [(4, .int x1), (7, .int x1), (0, .ref v0), (1, .ref v1), (2, .int v2), (3, .int v3), (5, .int v5), (6, .int v6)]) dX2_bestHours_50 (by decide) rfl ?_
      refine pg_iload (pc := 52) (i := 6) (j := 7) (x := v6) dX2_bestHours_52 rfl ?_
      refine pg_istore (pc := 54) (i := 5) (ls' := [(5, .int v6), (4, .int x1), (7, .int x1), (0, .ref v0), (1, .ref v1), (2, .int v2), (3, .int v3), (6, .int v6)]) dX2_bestHours_54 (by decide) rfl ?_
      refine pg_iconst (pc := 56) (v := 0) dX2_bestHours_56 (by decide) ?_
      refine pg_istore (pc := 57) (i := 8) (ls' := [(8, .int 0), (5, .int v6), (4, .int x1), (7, .int x1), (0, .ref v0), (1, .ref v1), (2, .int v2), (3, .int v3), (6, .int v6)]) dX2_bestHours_57 (by decide) rfl ?_
      refine pg_drop (ks := [4, 5, 6, 7, 2, 1, 8, 0]) (ls' := [(0, .ref v0), (1, .ref v1), (2, .int v2), (3, .int v3), (4, .int x1), (5, .int v6), (6, .int v6), (8, .int 0)]) rfl ?_
      exact k2 c0 x1 M1 w1 c1
theorem sX2_bestHours_59 {v0 : Nat} {v1 : Nat} {v2 : Int32} {v3 : Int32} {v4 : Int32} {v5 : Int32} {v6 : Int32} {v8 : Int32} {Q0 : Int32 → pg_M → Prop} {Q1 : Int32 → pg_M → Prop}
    (h0 : pg_isX5 Λ v1)
    (h1 : pg_isX2 Λ v0)
    (k0 : ((M.1 v1 12) ≤ v8) → pg_At S Λ YX2_bestHours (d + 1) 27 [(0, .ref v0), (1, .ref v1), (2, .int v2), (3, .int v3), (4, .int v4), (5, .int v5), (6, .int (v6 + 1))] [] M P)
    (b0 : (¬ (M.1 v1 12) ≤ v8) → vp_in v8 12)
    (e0 : (¬ (M.1 v1 12) ≤ v8) → pg_Ev S Λ YX5_windAt d [.ref v1, .int (v8 + v6)] M (fun r M' => ∃ x, r = some (.int x) ∧ Q0 x M'))
    (e1 : (¬ (M.1 v1 12) ≤ v8) → ∀ x1 M1, Q0 x1 M1 → pg_Ev S Λ YX5_wetAfter d [.ref v1, .int v2, .int (M.1 (v0 + 4) v8.toNatClampNeg), .int x1] M1 (fun r M' => ∃ x, r = some (.int x) ∧ Q1 x M'))
    (k1 : (¬ (M.1 v1 12) ≤ v8) → ∀ x1 M1, Q0 x1 M1 → ∀ x2 M2, Q1 x2 M2 → pg_At S Λ YX2_bestHours (d + 1) 59 [(0, .ref v0), (1, .ref v1), (2, .int v2), (3, .int v3), (4, .int v4), (5, .int v5), (6, .int v6), (8, .int (v8 + 1))] [] (pg_si M2 (v0 + 4) v8.toNatClampNeg x2) P) :
    pg_At S Λ YX2_bestHours (d + 1) 59 [(0, .ref v0), (1, .ref v1), (2, .int v2), (3, .int v3), (4, .int v4), (5, .int v5), (6, .int v6), (8, .int v8)] [] M P := by
  refine pg_iload (pc := 59) (i := 8) (j := 7) (x := v8) dX2_bestHours_59 rfl ?_
  refine pg_aload_n (pc := 61) (i := 1) (j := 1) (x := v1) dX2_bestHours_61 rfl rfl ?_
  refine gfX2_37 (pc := 62) rfl h0 dX2_bestHours_62 ?_
  refine pg_icmp_ge (pc := 65) (tgt := 102) dX2_bestHours_65 (by decide) (fun c0 => ?_) (fun c0 => ?_)
  · skip
    refine pg_iinc (pc := 102) (i := 6) (j := 6) (x := v6) (v := v6 + 1) (ls' := [(6, .int (v6 + 1)), (0, .ref v0), (1, .ref v1), (2, .int v2), (3, .int v3), (4, .int v4), (5, .int v5), (8, .int v8)]) dX2_bestHours_102 rfl rfl (by decide) rfl ?_
    refine pg_goto (pc := 105) (tgt := 27) dX2_bestHours_105 (by decide) ?_
    refine pg_drop (ks := [1, 2, 3, 4, 5, 6, 0]) (ls' := [(0, .ref v0), (1, .ref v1), (2, .int v2), (3, .int v3), (4, .int v4), (5, .int v5), (6, .int (v6 + 1))]) rfl ?_
    exact k0 c0
  · skip
    refine pg_aload_n (pc := 68) (i := 0) (j := 0) (x := v0) dX2_bestHours_68 rfl rfl ?_
    refine gfX2_21 (pc := 69) rfl h1 dX2_bestHours_69 ?_
    refine pg_iload (pc := 72) (i := 8) (j := 7) (x := v8) dX2_bestHours_72 rfl ?_
    refine pg_aload_n (pc := 74) (i := 1) (j := 1) (x := v1) dX2_bestHours_74 rfl rfl ?_
    refine pg_iload_n (pc := 75) (i := 2) (j := 2) (x := v2) dX2_bestHours_75 rfl rfl ?_
    refine pg_aload_n (pc := 76) (i := 0) (j := 0) (x := v0) dX2_bestHours_76 rfl rfl ?_
    refine gfX2_21 (pc := 77) rfl h1 dX2_bestHours_77 ?_
    refine pg_iload (pc := 80) (i := 8) (j := 7) (x := v8) dX2_bestHours_80 rfl ?_
    refine pg_iald (pc := 82) h1.2.2.2.2.1 (b0 c0) dX2_bestHours_82 ?_
    refine pg_aload_n (pc := 83) (i := 1) (j := 1) (x := v1) dX2_bestHours_83 rfl rfl ?_
    refine pg_iload (pc := 84) (i := 8) (j := 7) (x := v8) dX2_bestHours_84 rfl ?_
    refine pg_iload (pc := 86) (i := 6) (j := 6) (x := v6) dX2_bestHours_86 rfl ?_
    refine pg_iadd (pc := 88) dX2_bestHours_88 ?_
    refine pg_callV (pc := 89) (As := [.int (v8 + v6)]) (st := [.int (M.1 (v0 + 4) v8.toNatClampNeg), .int v2, .ref v1, .int v8, .ref (v0 + 4)]) okX5_windAt lkX2_46 rfl h0.1 rfl (Nat.le_refl _) (Nat.le_of_ble_eq_true rfl) (e0 c0) dX2_bestHours_89 (fun r1 M1 w1 => ?_)
    obtain ⟨x1, rfl, w1⟩ := w1
    refine pg_callV (pc := 92) (As := [.int v2, .int (M.1 (v0 + 4) v8.toNatClampNeg), .int x1]) (st := [.int v8, .ref (v0 + 4)]) okX5_wetAfter lkX2_50 rfl h0.1 rfl (Nat.le_refl _) (Nat.le_of_ble_eq_true rfl) (e1 c0 x1 M1 w1) dX2_bestHours_92 (fun r2 M2 w2 => ?_)
    obtain ⟨x2, rfl, w2⟩ := w2
    refine pg_iast (pc := 95) h1.2.2.2.2.1 (b0 c0) dX2_bestHours_95 ?_
    refine pg_iinc (pc := 96) (i := 8) (j := 7) (x := v8) (v := v8 + 1) (ls' := [(8, .int (v8 + 1)), (0, .ref v0), (1, .ref v1), (2, .int v2), (3, .int v3), (4, .int v4), (5, .int v5), (6, .int v6)]) dX2_bestHours_96 rfl rfl (by decide) rfl ?_
    refine pg_goto (pc := 99) (tgt := 59) dX2_bestHours_99 (by decide) ?_
    refine pg_drop (ks := [1, 2, 3, 4, 5, 6, 7, 0]) (ls' := [(0, .ref v0), (1, .ref v1), (2, .int v2), (3, .int v3), (4, .int v4), (5, .int v5), (6, .int v6), (8, .int (v8 + 1))]) rfl ?_
    exact k1 c0 x1 M1 w1 x2 M2 w2
theorem oX2_bestHours {d : Nat} {v0 : Nat} {v1 : Nat} {v2 : Int32} (h : pg_At S Λ YX2_bestHours d 0 [(0, .ref v0), (1, .ref v1), (2, .int v2)] [] M P) : pg_Ev S Λ YX2_bestHours d [.ref v0, .ref v1, .int v2] M P := pg_Ev.of (by decide) (by first | decide | exact Nat.le_of_ble_eq_true rfl) h
theorem sX2_mostAlike_0 {v0 : Nat} {v1 : Int32} 
    (h0 : pg_isX2 Λ v0)
    (k0 : pg_At S Λ YX2_mostAlike (d + 1) 12 [(0, .ref v0), (1, .int v1), (2, .int 0), (3, .int 0)] [] (pg_sa M (v0 + 5) (fun j => if j < 10 then 0 else M.1 (v0 + 5) j)) P) :
    pg_At S Λ YX2_mostAlike (d + 1) 0 [(0, .ref v0), (1, .int v1)] [] M P := by
  refine pg_aload_n (pc := 0) (i := 0) (j := 0) (x := v0) dX2_mostAlike_0 rfl rfl ?_
  refine gfX2_24 (pc := 1) rfl h0 dX2_mostAlike_1 ?_
  refine pg_iconst (pc := 4) (v := 0) dX2_mostAlike_4 (by decide) ?_
  refine pg_jfill (pc := 5) (st := []) lkX2_63 (Nat.le_of_ble_eq_true rfl) h0.2.2.2.2.2 (by decide) dX2_mostAlike_5 ?_
  refine pg_iconst (pc := 8) (v := 0) dX2_mostAlike_8 (by decide) ?_
  refine pg_istore_n (pc := 9) (i := 2) (ls' := [(2, .int 0), (0, .ref v0), (1, .int v1)]) dX2_mostAlike_9 rfl (by decide) rfl ?_
  refine pg_iconst (pc := 10) (v := 0) dX2_mostAlike_10 (by decide) ?_
  refine pg_istore_n (pc := 11) (i := 3) (ls' := [(3, .int 0), (2, .int 0), (0, .ref v0), (1, .int v1)]) dX2_mostAlike_11 rfl (by decide) rfl ?_
  refine pg_drop (ks := [2, 3, 1, 0]) (ls' := [(0, .ref v0), (1, .int v1), (2, .int 0), (3, .int 0)]) rfl ?_
  exact k0
theorem sX2_mostAlike_12 {v0 : Nat} {v1 : Int32} {v2 : Int32} {v3 : Int32} 
    (h0 : pg_isX2 Λ v0)
    (k0 : (12 ≤ v3) → P (some (.int v2)) M)
    (b0 : (¬ 12 ≤ v3) → vp_in v3 12)
    (k1 : (¬ 12 ≤ v3) → (((v1 >>> (v3 &&& 31)) &&& 1) = 0) → pg_At S Λ YX2_mostAlike (d + 1) 12 [(0, .ref v0), (1, .int v1), (2, .int v2), (3, .int (v3 + 1))] [] M P)
    (k2 : (¬ 12 ≤ v3) → (¬ ((v1 >>> (v3 &&& 31)) &&& 1) = 0) → ((M.1 (v0 + 4) v3.toNatClampNeg) < 0) → pg_At S Λ YX2_mostAlike (d + 1) 12 [(0, .ref v0), (1, .int v1), (2, .int v2), (3, .int (v3 + 1))] [] M P)
    (k3 : (¬ 12 ≤ v3) → (¬ ((v1 >>> (v3 &&& 31)) &&& 1) = 0) → (¬ (M.1 (v0 + 4) v3.toNatClampNeg) < 0) → (10 ≤ (M.1 (v0 + 4) v3.toNatClampNeg)) → pg_At S Λ YX2_mostAlike (d + 1) 12 [(0, .ref v0), (1, .int v1), (2, .int v2), (3, .int (v3 + 1))] [] M P)
    (b1 : (¬ 12 ≤ v3) → (¬ ((v1 >>> (v3 &&& 31)) &&& 1) = 0) → (¬ (M.1 (v0 + 4) v3.toNatClampNeg) < 0) → (¬ 10 ≤ (M.1 (v0 + 4) v3.toNatClampNeg)) → vp_in (M.1 (v0 + 4) v3.toNatClampNeg) 10)
    (k4 : (¬ 12 ≤ v3) → (¬ ((v1 >>> (v3 &&& 31)) &&& 1) = 0) → (¬ (M.1 (v0 + 4) v3.toNatClampNeg) < 0) → (¬ 10 ≤ (M.1 (v0 + 4) v3.toNatClampNeg)) → ∀ N1, N1 = pg_si M (v0 + 5) (M.1 (v0 + 4) v3.toNatClampNeg).toNatClampNeg ((M.1 (v0 + 5) (M.1 (v0 + 4) v3.toNatClampNeg).toNatClampNeg) + 1) → pg_At S Λ YX2_mostAlike (d + 1) 12 [(0, .ref v0), (1, .int v1), (2, .int (pg_max v2 (N1.1 (v0 + 5) (M.1 (v0 + 4) v3.toNatClampNeg).toNatClampNeg))), (3, .int (v3 + 1))] [] N1 P) :
    pg_At S Λ YX2_mostAlike (d + 1) 12 [(0, .ref v0), (1, .int v1), (2, .int v2), (3, .int v3)] [] M P := by
  refine pg_iload_n (pc := 12) (i := 3) (j := 3) (x := v3) dX2_mostAlike_12 rfl rfl ?_
  refine pg_bipush (pc := 13) (v := 12) dX2_mostAlike_13 (by decide) ?_
  refine pg_icmp_ge (pc := 15) (tgt := 75) dX2_mostAlike_15 (by decide) (fun c0 => ?_) (fun c0 => ?_)
  · skip
    refine pg_iload_n (pc := 75) (i := 2) (j := 2) (x := v2) dX2_mostAlike_75 rfl rfl ?_
    exact pg_iret (pc := 76) rfl dX2_mostAlike_76 (k0 c0)
  · skip
    refine pg_aload_n (pc := 18) (i := 0) (j := 0) (x := v0) dX2_mostAlike_18 rfl rfl ?_
    refine gfX2_21 (pc := 19) rfl h0 dX2_mostAlike_19 ?_
    refine pg_iload_n (pc := 22) (i := 3) (j := 3) (x := v3) dX2_mostAlike_22 rfl rfl ?_
    refine pg_iald (pc := 23) h0.2.2.2.2.1 (b0 c0) dX2_mostAlike_23 ?_
    refine pg_istore (pc := 24) (i := 4) (ls' := [(4, .int (M.1 (v0 + 4) v3.toNatClampNeg)), (0, .ref v0), (1, .int v1), (2, .int v2), (3, .int v3)]) dX2_mostAlike_24 (by decide) rfl ?_
    refine pg_iload_n (pc := 26) (i := 1) (j := 2) (x := v1) dX2_mostAlike_26 rfl rfl ?_
    refine pg_iload_n (pc := 27) (i := 3) (j := 4) (x := v3) dX2_mostAlike_27 rfl rfl ?_
    refine pg_ishr (pc := 28) dX2_mostAlike_28 ?_
    refine pg_iconst (pc := 29) (v := 1) dX2_mostAlike_29 (by decide) ?_
    refine pg_iand (pc := 30) dX2_mostAlike_30 ?_
    refine pg_if_eq (pc := 31) (tgt := 69) dX2_mostAlike_31 (by decide) (fun c1 => ?_) (fun c1 => ?_)
    · skip
      refine pg_iinc (pc := 69) (i := 3) (j := 4) (x := v3) (v := v3 + 1) (ls' := [(3, .int (v3 + 1)), (4, .int (M.1 (v0 + 4) v3.toNatClampNeg)), (0, .ref v0), (1, .int v1), (2, .int v2)]) dX2_mostAlike_69 rfl rfl (by decide) rfl ?_
      refine pg_goto (pc := 72) (tgt := 12) dX2_mostAlike_72 (by decide) ?_
      refine pg_drop (ks := [2, 3, 4, 0]) (ls' := [(0, .ref v0), (1, .int v1), (2, .int v2), (3, .int (v3 + 1))]) rfl ?_
      exact k1 c0 c1
    · skip
      refine pg_iload (pc := 34) (i := 4) (j := 0) (x := (M.1 (v0 + 4) v3.toNatClampNeg)) dX2_mostAlike_34 rfl ?_
      refine pg_if_lt (pc := 36) (tgt := 69) dX2_mostAlike_36 (by decide) (fun c2 => ?_) (fun c2 => ?_)
      · skip
        refine pg_iinc (pc := 69) (i := 3) (j := 4) (x := v3) (v := v3 + 1) (ls' := [(3, .int (v3 + 1)), (4, .int (M.1 (v0 + 4) v3.toNatClampNeg)), (0, .ref v0), (1, .int v1), (2, .int v2)]) dX2_mostAlike_69 rfl rfl (by decide) rfl ?_
        refine pg_goto (pc := 72) (tgt := 12) dX2_mostAlike_72 (by decide) ?_
        refine pg_drop (ks := [2, 3, 4, 0]) (ls' := [(0, .ref v0), (1, .int v1), (2, .int v2), (3, .int (v3 + 1))]) rfl ?_
        exact k2 c0 c1 c2
      · skip
        refine pg_iload (pc := 39) (i := 4) (j := 0) (x := (M.1 (v0 + 4) v3.toNatClampNeg)) dX2_mostAlike_39 rfl ?_
        refine pg_bipush (pc := 41) (v := 10) dX2_mostAlike_41 (by decide) ?_
        refine pg_icmp_ge (pc := 43) (tgt := 69) dX2_mostAlike_43 (by decide) (fun c3 => ?_) (fun c3 => ?_)
        · skip
          refine pg_iinc (pc := 69) (i := 3) (j := 4) (x := v3) (v := v3 + 1) (ls' := [(3, .int (v3 + 1)), (4, .int (M.1 (v0 + 4) v3.toNatClampNeg)), (0, .ref v0), (1, .int v1), (2, .int v2)]) dX2_mostAlike_69 rfl rfl (by decide) rfl ?_
          refine pg_goto (pc := 72) (tgt := 12) dX2_mostAlike_72 (by decide) ?_
          refine pg_drop (ks := [2, 3, 4, 0]) (ls' := [(0, .ref v0), (1, .int v1), (2, .int v2), (3, .int (v3 + 1))]) rfl ?_
          exact k3 c0 c1 c2 c3
        · skip
          refine pg_aload_n (pc := 46) (i := 0) (j := 1) (x := v0) dX2_mostAlike_46 rfl rfl ?_
          refine gfX2_24 (pc := 47) rfl h0 dX2_mostAlike_47 ?_
          refine pg_iload (pc := 50) (i := 4) (j := 0) (x := (M.1 (v0 + 4) v3.toNatClampNeg)) dX2_mostAlike_50 rfl ?_
          refine pg_dup2_11 (pc := 52) dX2_mostAlike_52 rfl rfl ?_
          refine pg_iald (pc := 53) h0.2.2.2.2.2 (b1 c0 c1 c2 c3) dX2_mostAlike_53 ?_
          refine pg_iconst (pc := 54) (v := 1) dX2_mostAlike_54 (by decide) ?_
          refine pg_iadd (pc := 55) dX2_mostAlike_55 ?_
          refine pg_iast (pc := 56) h0.2.2.2.2.2 (b1 c0 c1 c2 c3) dX2_mostAlike_56 ?_
          refine pg_named (fun N1 u1 => ?_)
          refine pg_iload_n (pc := 57) (i := 2) (j := 3) (x := v2) dX2_mostAlike_57 rfl rfl ?_
          refine pg_aload_n (pc := 58) (i := 0) (j := 1) (x := v0) dX2_mostAlike_58 rfl rfl ?_
          refine gfX2_24 (pc := 59) rfl h0 dX2_mostAlike_59 ?_
          refine pg_iload (pc := 62) (i := 4) (j := 0) (x := (M.1 (v0 + 4) v3.toNatClampNeg)) dX2_mostAlike_62 rfl ?_
          refine pg_iald (pc := 64) h0.2.2.2.2.2 (b1 c0 c1 c2 c3) dX2_mostAlike_64 ?_
          refine pg_jmax (pc := 65) (st := []) lkX2_72 (Nat.le_of_ble_eq_true rfl) dX2_mostAlike_65 ?_
          refine pg_istore_n (pc := 68) (i := 2) (ls' := [(2, .int (pg_max v2 (N1.1 (v0 + 5) (M.1 (v0 + 4) v3.toNatClampNeg).toNatClampNeg))), (4, .int (M.1 (v0 + 4) v3.toNatClampNeg)), (0, .ref v0), (1, .int v1), (3, .int v3)]) dX2_mostAlike_68 rfl (by decide) rfl ?_
          refine pg_iinc (pc := 69) (i := 3) (j := 4) (x := v3) (v := v3 + 1) (ls' := [(3, .int (v3 + 1)), (2, .int (pg_max v2 (N1.1 (v0 + 5) (M.1 (v0 + 4) v3.toNatClampNeg).toNatClampNeg))), (4, .int (M.1 (v0 + 4) v3.toNatClampNeg)), (0, .ref v0), (1, .int v1)]) dX2_mostAlike_69 rfl rfl (by decide) rfl ?_
          refine pg_goto (pc := 72) (tgt := 12) dX2_mostAlike_72 (by decide) ?_
          refine pg_drop (ks := [3, 4, 1, 0]) (ls' := [(0, .ref v0), (1, .int v1), (2, .int (pg_max v2 (N1.1 (v0 + 5) (M.1 (v0 + 4) v3.toNatClampNeg).toNatClampNeg))), (3, .int (v3 + 1))]) rfl ?_
          exact k4 c0 c1 c2 c3 N1 u1
theorem oX2_mostAlike {d : Nat} {v0 : Nat} {v1 : Int32} (h : pg_At S Λ YX2_mostAlike d 0 [(0, .ref v0), (1, .int v1)] [] M P) : pg_Ev S Λ YX2_mostAlike d [.ref v0, .int v1] M P := pg_Ev.of (by decide) (by first | decide | exact Nat.le_of_ble_eq_true rfl) h
theorem sX3_plan_0 {v1 : Nat} {v2 : Nat} {v3 : Int32} 
    (h0 : pg_isX5 Λ v1)
    (h1 : pg_isX3 Λ)
    (h2 : pg_isX9 Λ v2)
    (k0 : ∀ N1, N1 = pg_si (pg_si M 153 7 ((1 : Int32) <<< ((M.1 v1 10) &&& 31))) 153 8 ((1 : Int32) <<< (((pg_si M 153 7 ((1 : Int32) <<< ((M.1 v1 10) &&& 31))).1 v2 4) &&& 31)) → pg_At S Λ YX3_plan (d + 1) 23 [(0, .ref 153), (1, .ref v1), (2, .ref v2), (3, .int v3), (4, .int 0)] [] N1 P) :
    pg_At S Λ YX3_plan (d + 1) 0 [(0, .ref 153), (1, .ref v1), (2, .ref v2), (3, .int v3)] [] M P := by
  refine pg_aload_n (pc := 0) (i := 0) (j := 0) (x := 153) dX3_plan_0 rfl rfl ?_
  refine pg_iconst (pc := 1) (v := 1) dX3_plan_1 (by decide) ?_
  refine pg_aload_n (pc := 2) (i := 1) (j := 1) (x := v1) dX3_plan_2 rfl rfl ?_
  refine gfX3_35 (pc := 3) rfl h0 dX3_plan_3 ?_
  refine pg_ishl (pc := 6) dX3_plan_6 ?_
  refine pfX3_41 (pc := 7) rfl h1 dX3_plan_7 ?_
  refine pg_aload_n (pc := 10) (i := 0) (j := 0) (x := 153) dX3_plan_10 rfl rfl ?_
  refine pg_iconst (pc := 11) (v := 1) dX3_plan_11 (by decide) ?_
  refine pg_aload_n (pc := 12) (i := 2) (j := 2) (x := v2) dX3_plan_12 rfl rfl ?_
  refine gfX3_44 (pc := 13) rfl h2 dX3_plan_13 ?_
  refine pg_ishl (pc := 16) dX3_plan_16 ?_
  refine pfX3_49 (pc := 17) rfl h1 dX3_plan_17 ?_
  refine pg_named (fun N1 u1 => ?_)
  refine pg_iconst (pc := 20) (v := 0) dX3_plan_20 (by decide) ?_
  refine pg_istore (pc := 21) (i := 4) (ls' := [(4, .int 0), (0, .ref 153), (1, .ref v1), (2, .ref v2), (3, .int v3)]) dX3_plan_21 (by decide) rfl ?_
  refine pg_drop (ks := [1, 2, 3, 4, 0]) (ls' := [(0, .ref 153), (1, .ref v1), (2, .ref v2), (3, .int v3), (4, .int 0)]) rfl ?_
  exact k0 N1 u1
theorem sX3_plan_23 {v1 : Nat} {v2 : Nat} {v3 : Int32} {v4 : Int32} {Q0 : pg_M → Prop}
    (h0 : pg_isX5 Λ v1)
    (h1 : pg_isX3 Λ)
    (k0 : ((M.1 v1 10) ≤ v4) → ∀ N2, N2 = pg_si (pg_sj (pg_sl2 M 159 (fun j => if j < 256 then 0 else M.2.1 159 j)) 159 (0 : Int32).toNatClampNeg 1) 158 (0 : Int32).toNatClampNeg (vp_nar .boolean 1) → pg_At S Λ YX3_plan (d + 1) 77 [(0, .ref 153), (1, .ref v1), (4, .int 1)] [] (pg_si N2 153 9 0) P)
    (e0 : (¬ (M.1 v1 10) ≤ v4) → pg_Ev S Λ YX3_chooseFor d [.ref 153, .ref v1, .ref v2, .int v4, .int v3] M (fun r M' => r = none ∧ Q0 M'))
    (k1 : (¬ (M.1 v1 10) ≤ v4) → ∀ M1, Q0 M1 → pg_At S Λ YX3_plan (d + 1) 23 [(0, .ref 153), (1, .ref v1), (2, .ref v2), (3, .int v3), (4, .int (v4 + 1))] [] M1 P) :
    pg_At S Λ YX3_plan (d + 1) 23 [(0, .ref 153), (1, .ref v1), (2, .ref v2), (3, .int v3), (4, .int v4)] [] M P := by
  refine pg_iload (pc := 23) (i := 4) (j := 4) (x := v4) dX3_plan_23 rfl ?_
  refine pg_aload_n (pc := 25) (i := 1) (j := 1) (x := v1) dX3_plan_25 rfl rfl ?_
  refine gfX3_35 (pc := 26) rfl h0 dX3_plan_26 ?_
  refine pg_icmp_ge (pc := 29) (tgt := 47) dX3_plan_29 (by decide) (fun c0 => ?_) (fun c0 => ?_)
  · skip
    refine pg_aload_n (pc := 47) (i := 0) (j := 0) (x := 153) dX3_plan_47 rfl rfl ?_
    refine gfX3_28 (pc := 48) rfl h1 dX3_plan_48 ?_
    refine pg_lconst (pc := 51) (v := 0) dX3_plan_51 (by decide) ?_
    refine pg_jfilll (pc := 52) (st := []) lkX3_56 (Nat.le_of_ble_eq_true rfl) h1.2.2.2.2.2.2.1 (by decide) dX3_plan_52 ?_
    refine pg_aload_n (pc := 55) (i := 0) (j := 0) (x := 153) dX3_plan_55 rfl rfl ?_
    refine gfX3_28 (pc := 56) rfl h1 dX3_plan_56 ?_
    refine pg_iconst (pc := 59) (v := 0) dX3_plan_59 (by decide) ?_
    refine pg_lconst (pc := 60) (v := 1) dX3_plan_60 (by decide) ?_
    refine pg_last (pc := 61) h1.2.2.2.2.2.2.1 (by unfold vp_in; decide) dX3_plan_61 ?_
    refine pg_aload_n (pc := 62) (i := 0) (j := 0) (x := 153) dX3_plan_62 rfl rfl ?_
    refine gfX3_24 (pc := 63) rfl h1 dX3_plan_63 ?_
    refine pg_iconst (pc := 66) (v := 0) dX3_plan_66 (by decide) ?_
    refine pg_iconst (pc := 67) (v := 1) dX3_plan_67 (by decide) ?_
    refine pg_zast (pc := 68) h1.2.2.2.2.2.1 (by unfold vp_in; decide) dX3_plan_68 ?_
    refine pg_named (fun N2 u2 => ?_)
    refine pg_aload_n (pc := 69) (i := 0) (j := 0) (x := 153) dX3_plan_69 rfl rfl ?_
    refine pg_iconst (pc := 70) (v := 0) dX3_plan_70 (by decide) ?_
    refine pfX3_62 (pc := 71) rfl h1 dX3_plan_71 ?_
    refine pg_iconst (pc := 74) (v := 1) dX3_plan_74 (by decide) ?_
    refine pg_istore (pc := 75) (i := 4) (ls' := [(4, .int 1), (0, .ref 153), (1, .ref v1), (2, .ref v2), (3, .int v3)]) dX3_plan_75 (by decide) rfl ?_
    refine pg_drop (ks := [1, 2, 0]) (ls' := [(0, .ref 153), (1, .ref v1), (4, .int 1)]) rfl ?_
    exact k0 c0 N2 u2
  · skip
    refine pg_aload_n (pc := 32) (i := 0) (j := 0) (x := 153) dX3_plan_32 rfl rfl ?_
    refine pg_aload_n (pc := 33) (i := 1) (j := 1) (x := v1) dX3_plan_33 rfl rfl ?_
    refine pg_aload_n (pc := 34) (i := 2) (j := 2) (x := v2) dX3_plan_34 rfl rfl ?_
    refine pg_iload (pc := 35) (i := 4) (j := 4) (x := v4) dX3_plan_35 rfl ?_
    refine pg_iload_n (pc := 37) (i := 3) (j := 3) (x := v3) dX3_plan_37 rfl rfl ?_
    refine pg_callV (pc := 38) (As := [.ref v1, .ref v2, .int v4, .int v3]) (st := []) okX3_chooseFor lkX3_52 rfl h1.1 rfl (Nat.le_refl _) (Nat.le_of_ble_eq_true rfl) (e0 c0) dX3_plan_38 (fun r1 M1 w1 => ?_)
    obtain ⟨rfl, w1⟩ := w1
    refine pg_iinc (pc := 41) (i := 4) (j := 4) (x := v4) (v := v4 + 1) (ls' := [(4, .int (v4 + 1)), (0, .ref 153), (1, .ref v1), (2, .ref v2), (3, .int v3)]) dX3_plan_41 rfl rfl (by decide) rfl ?_
    refine pg_goto (pc := 44) (tgt := 23) dX3_plan_44 (by decide) ?_
    refine pg_drop (ks := [1, 2, 3, 4, 0]) (ls' := [(0, .ref 153), (1, .ref v1), (2, .ref v2), (3, .int v3), (4, .int (v4 + 1))]) rfl ?_
    exact k1 c0 M1 w1
theorem sX3_plan_77 {v1 : Nat} {v4 : Int32} {Q0 : pg_M → Prop} {Q1 : pg_M → Prop}
    (h0 : pg_isX3 Λ)
    (e0 : ((M.1 153 7) ≤ v4) → pg_Ev S Λ YX3_layRow d [.ref 153, .ref v1] M (fun r M' => r = none ∧ Q0 M'))
    (k0 : ((M.1 153 7) ≤ v4) → ∀ M1, Q0 M1 → P none M1)
    (e1 : (¬ (M.1 153 7) ≤ v4) → pg_Ev S Λ YX3_holdSet d [.ref 153, .ref v1, .int v4] M (fun r M' => r = none ∧ Q1 M'))
    (b0 : (¬ (M.1 153 7) ≤ v4) → ∀ M2, Q1 M2 → vp_in v4 64)
    (k1 : (¬ (M.1 153 7) ≤ v4) → ∀ M2, Q1 M2 → ((M2.1 158 v4.toNatClampNeg) = 0) → pg_At S Λ YX3_plan (d + 1) 77 [(0, .ref 153), (1, .ref v1), (4, .int (v4 + 1))] [] M2 P)
    (k2 : (¬ (M.1 153 7) ≤ v4) → ∀ M2, Q1 M2 → (¬ (M2.1 158 v4.toNatClampNeg) = 0) → pg_At S Λ YX3_plan (d + 1) 77 [(0, .ref 153), (1, .ref v1), (4, .int (v4 + 1))] [] (pg_si M2 153 9 (pg_max (M2.1 153 9) (M2.1 157 v4.toNatClampNeg))) P) :
    pg_At S Λ YX3_plan (d + 1) 77 [(0, .ref 153), (1, .ref v1), (4, .int v4)] [] M P := by
  refine pg_iload (pc := 77) (i := 4) (j := 2) (x := v4) dX3_plan_77 rfl ?_
  refine pg_aload_n (pc := 79) (i := 0) (j := 0) (x := 153) dX3_plan_79 rfl rfl ?_
  refine gfX3_41 (pc := 80) rfl h0 dX3_plan_80 ?_
  refine pg_icmp_ge (pc := 83) (tgt := 127) dX3_plan_83 (by decide) (fun c0 => ?_) (fun c0 => ?_)
  · skip
    refine pg_aload_n (pc := 127) (i := 0) (j := 0) (x := 153) dX3_plan_127 rfl rfl ?_
    refine pg_aload_n (pc := 128) (i := 1) (j := 1) (x := v1) dX3_plan_128 rfl rfl ?_
    refine pg_callV (pc := 129) (As := [.ref v1]) (st := []) okX3_layRow lkX3_75 rfl h0.1 rfl (Nat.le_refl _) (Nat.le_of_ble_eq_true rfl) (e0 c0) dX3_plan_129 (fun r1 M1 w1 => ?_)
    obtain ⟨rfl, w1⟩ := w1
    exact pg_vret (pc := 132) rfl dX3_plan_132 (k0 c0 M1 w1)
  · skip
    refine pg_aload_n (pc := 86) (i := 0) (j := 0) (x := 153) dX3_plan_86 rfl rfl ?_
    refine pg_aload_n (pc := 87) (i := 1) (j := 1) (x := v1) dX3_plan_87 rfl rfl ?_
    refine pg_iload (pc := 88) (i := 4) (j := 2) (x := v4) dX3_plan_88 rfl ?_
    refine pg_callV (pc := 90) (As := [.ref v1, .int v4]) (st := []) okX3_holdSet lkX3_65 rfl h0.1 rfl (Nat.le_refl _) (Nat.le_of_ble_eq_true rfl) (e1 c0) dX3_plan_90 (fun r2 M2 w2 => ?_)
    obtain ⟨rfl, w2⟩ := w2
    refine pg_aload_n (pc := 93) (i := 0) (j := 0) (x := 153) dX3_plan_93 rfl rfl ?_
    refine gfX3_24 (pc := 94) rfl h0 dX3_plan_94 ?_
    refine pg_iload (pc := 97) (i := 4) (j := 2) (x := v4) dX3_plan_97 rfl ?_
    refine pg_zald (pc := 99) h0.2.2.2.2.2.1 (b0 c0 M2 w2) dX3_plan_99 ?_
    refine pg_if_eq (pc := 100) (tgt := 121) dX3_plan_100 (by decide) (fun c1 => ?_) (fun c1 => ?_)
    · skip
      refine pg_iinc (pc := 121) (i := 4) (j := 2) (x := v4) (v := v4 + 1) (ls' := [(4, .int (v4 + 1)), (0, .ref 153), (1, .ref v1)]) dX3_plan_121 rfl rfl (by decide) rfl ?_
      refine pg_goto (pc := 124) (tgt := 77) dX3_plan_124 (by decide) ?_
      refine pg_drop (ks := [1, 2, 0]) (ls' := [(0, .ref 153), (1, .ref v1), (4, .int (v4 + 1))]) rfl ?_
      exact k1 c0 M2 w2 c1
    · skip
      refine pg_aload_n (pc := 103) (i := 0) (j := 0) (x := 153) dX3_plan_103 rfl rfl ?_
      refine pg_aload_n (pc := 104) (i := 0) (j := 0) (x := 153) dX3_plan_104 rfl rfl ?_
      refine gfX3_62 (pc := 105) rfl h0 dX3_plan_105 ?_
      refine pg_aload_n (pc := 108) (i := 0) (j := 0) (x := 153) dX3_plan_108 rfl rfl ?_
      refine gfX3_21 (pc := 109) rfl h0 dX3_plan_109 ?_
      refine pg_iload (pc := 112) (i := 4) (j := 2) (x := v4) dX3_plan_112 rfl ?_
      refine pg_iald (pc := 114) h0.2.2.2.2.1 (b0 c0 M2 w2) dX3_plan_114 ?_
      refine pg_jmax (pc := 115) (st := [.ref 153]) lkX3_69 (Nat.le_of_ble_eq_true rfl) dX3_plan_115 ?_
      refine pfX3_62 (pc := 118) rfl h0 dX3_plan_118 ?_
      refine pg_iinc (pc := 121) (i := 4) (j := 2) (x := v4) (v := v4 + 1) (ls' := [(4, .int (v4 + 1)), (0, .ref 153), (1, .ref v1)]) dX3_plan_121 rfl rfl (by decide) rfl ?_
      refine pg_goto (pc := 124) (tgt := 77) dX3_plan_124 (by decide) ?_
      refine pg_drop (ks := [1, 2, 0]) (ls' := [(0, .ref 153), (1, .ref v1), (4, .int (v4 + 1))]) rfl ?_
      exact k2 c0 M2 w2 c1
theorem oX3_plan {d : Nat} {v1 : Nat} {v2 : Nat} {v3 : Int32} (h : pg_At S Λ YX3_plan d 0 [(0, .ref 153), (1, .ref v1), (2, .ref v2), (3, .int v3)] [] M P) : pg_Ev S Λ YX3_plan d [.ref 153, .ref v1, .ref v2, .int v3] M P := pg_Ev.of (by decide) (by first | decide | exact Nat.le_of_ble_eq_true rfl) h
theorem sX3_chooseFor_0 {v1 : Nat} {v2 : Nat} {v3 : Int32} {v4 : Int32} {Q0 : Int32 → pg_M → Prop} {Q1 : Int32 → pg_M → Prop} {Q2 : Int32 → pg_M → Prop}
    (h0 : pg_isX5 Λ v1)
    (h1 : pg_isX9 Λ v2)
    (h2 : pg_isX3 Λ)
    (e0 : pg_Ev S Λ YX5_pegsFor d [.ref v1, .int v3] M (fun r M' => ∃ x, r = some (.int x) ∧ Q0 x M'))
    (e1 : ∀ x1 M1, Q0 x1 M1 → pg_Ev S Λ YX9_unsplitPegs d [.ref v2] M1 (fun r M' => ∃ x, r = some (.int x) ∧ Q1 x M'))
    (e2 : ∀ x1 M1, Q0 x1 M1 → ∀ x2 M2, Q1 x2 M2 → pg_Ev S Λ YX3_mostPull d [.ref v1, .ref v2, .int v3, .int v4] M2 (fun r M' => ∃ x, r = some (.int x) ∧ Q2 x M'))
    (b0 : ∀ x1 M1, Q0 x1 M1 → ∀ x2 M2, Q1 x2 M2 → ∀ x3 M3, Q2 x3 M3 → vp_in v3 6)
    (k0 : ∀ x1 M1, Q0 x1 M1 → ∀ x2 M2, Q1 x2 M2 → ∀ x3 M3, Q2 x3 M3 → (3 ≤ (M3.1 (v2 + 2) v3.toNatClampNeg)) → P none (pg_si M3 155 v3.toNatClampNeg 0))
    (k1 : ∀ x1 M1, Q0 x1 M1 → ∀ x2 M2, Q1 x2 M2 → ∀ x3 M3, Q2 x3 M3 → (¬ 3 ≤ (M3.1 (v2 + 2) v3.toNatClampNeg)) → pg_At S Λ YX3_chooseFor (d + 1) 41 [(0, .ref 153), (2, .ref v2), (3, .int v3), (5, .int x1), (6, .int (x2 ^^^ (-1))), (7, .int x3), (8, .int 0), (9, .int 1)] [] M3 P) :
    pg_At S Λ YX3_chooseFor (d + 1) 0 [(0, .ref 153), (1, .ref v1), (2, .ref v2), (3, .int v3), (4, .int v4)] [] M P := by
  refine pg_aload_n (pc := 0) (i := 1) (j := 1) (x := v1) dX3_chooseFor_0 rfl rfl ?_
  refine pg_iload_n (pc := 1) (i := 3) (j := 3) (x := v3) dX3_chooseFor_1 rfl rfl ?_
  refine pg_callV (pc := 2) (As := [.int v3]) (st := []) okX5_pegsFor lkX3_79 rfl h0.1 rfl (Nat.le_refl _) (Nat.le_of_ble_eq_true rfl) e0 dX3_chooseFor_2 (fun r1 M1 w1 => ?_)
  obtain ⟨x1, rfl, w1⟩ := w1
  refine pg_istore (pc := 5) (i := 5) (ls' := [(5, .int x1), (0, .ref 153), (1, .ref v1), (2, .ref v2), (3, .int v3), (4, .int v4)]) dX3_chooseFor_5 (by decide) rfl ?_
  refine pg_aload_n (pc := 7) (i := 2) (j := 3) (x := v2) dX3_chooseFor_7 rfl rfl ?_
  refine pg_callV (pc := 8) (As := []) (st := []) okX9_unsplitPegs lkX3_83 rfl h1.1 rfl (Nat.le_refl _) (Nat.le_of_ble_eq_true rfl) (e1 x1 M1 w1) dX3_chooseFor_8 (fun r2 M2 w2 => ?_)
  obtain ⟨x2, rfl, w2⟩ := w2
  refine pg_iconst (pc := 11) (v := (-1)) dX3_chooseFor_11 (by decide) ?_
  refine pg_ixor (pc := 12) dX3_chooseFor_12 ?_
  refine pg_istore (pc := 13) (i := 6) (ls' := [(6, .int (x2 ^^^ (-1))), (5, .int x1), (0, .ref 153), (1, .ref v1), (2, .ref v2), (3, .int v3), (4, .int v4)]) dX3_chooseFor_13 (by decide) rfl ?_
  refine pg_aload_n (pc := 15) (i := 1) (j := 3) (x := v1) dX3_chooseFor_15 rfl rfl ?_
  refine pg_aload_n (pc := 16) (i := 2) (j := 4) (x := v2) dX3_chooseFor_16 rfl rfl ?_
  refine pg_iload_n (pc := 17) (i := 3) (j := 5) (x := v3) dX3_chooseFor_17 rfl rfl ?_
  refine pg_iload (pc := 18) (i := 4) (j := 6) (x := v4) dX3_chooseFor_18 rfl ?_
  refine pg_callS (pc := 20) (As := [.ref v1, .ref v2, .int v3, .int v4]) (st := []) okX3_mostPull lkX3_87 rfl (Nat.le_refl _) (Nat.le_of_ble_eq_true rfl) (e2 x1 M1 w1 x2 M2 w2) dX3_chooseFor_20 (fun r3 M3 w3 => ?_)
  obtain ⟨x3, rfl, w3⟩ := w3
  refine pg_istore (pc := 23) (i := 7) (ls' := [(7, .int x3), (6, .int (x2 ^^^ (-1))), (5, .int x1), (0, .ref 153), (1, .ref v1), (2, .ref v2), (3, .int v3), (4, .int v4)]) dX3_chooseFor_23 (by decide) rfl ?_
  refine pg_iconst (pc := 25) (v := 0) dX3_chooseFor_25 (by decide) ?_
  refine pg_istore (pc := 26) (i := 8) (ls' := [(8, .int 0), (7, .int x3), (6, .int (x2 ^^^ (-1))), (5, .int x1), (0, .ref 153), (1, .ref v1), (2, .ref v2), (3, .int v3), (4, .int v4)]) dX3_chooseFor_26 (by decide) rfl ?_
  refine pg_aload_n (pc := 28) (i := 2) (j := 6) (x := v2) dX3_chooseFor_28 rfl rfl ?_
  refine gfX3_91 (pc := 29) rfl h1 dX3_chooseFor_29 ?_
  refine pg_iload_n (pc := 32) (i := 3) (j := 7) (x := v3) dX3_chooseFor_32 rfl rfl ?_
  refine pg_iald (pc := 33) h1.2.2.1 (b0 x1 M1 w1 x2 M2 w2 x3 M3 w3) dX3_chooseFor_33 ?_
  refine pg_iconst (pc := 34) (v := 3) dX3_chooseFor_34 (by decide) ?_
  refine pg_icmp_ge (pc := 35) (tgt := 109) dX3_chooseFor_35 (by decide) (fun c0 => ?_) (fun c0 => ?_)
  · skip
    refine pg_aload_n (pc := 109) (i := 0) (j := 4) (x := 153) dX3_chooseFor_109 rfl rfl ?_
    refine gfX3_15 (pc := 110) rfl h2 dX3_chooseFor_110 ?_
    refine pg_iload_n (pc := 113) (i := 3) (j := 7) (x := v3) dX3_chooseFor_113 rfl rfl ?_
    refine pg_iload (pc := 114) (i := 8) (j := 0) (x := 0) dX3_chooseFor_114 rfl ?_
    refine pg_iast (pc := 116) h2.2.2.1 (b0 x1 M1 w1 x2 M2 w2 x3 M3 w3) dX3_chooseFor_116 ?_
    exact pg_vret (pc := 117) rfl dX3_chooseFor_117 (k0 x1 M1 w1 x2 M2 w2 x3 M3 w3 c0)
  · skip
    refine pg_iconst (pc := 38) (v := 1) dX3_chooseFor_38 (by decide) ?_
    refine pg_istore (pc := 39) (i := 9) (ls' := [(9, .int 1), (8, .int 0), (7, .int x3), (6, .int (x2 ^^^ (-1))), (5, .int x1), (0, .ref 153), (1, .ref v1), (2, .ref v2), (3, .int v3), (4, .int v4)]) dX3_chooseFor_39 (by decide) rfl ?_
    refine pg_drop (ks := [5, 7, 8, 4, 3, 2, 1, 0]) (ls' := [(0, .ref 153), (2, .ref v2), (3, .int v3), (5, .int x1), (6, .int (x2 ^^^ (-1))), (7, .int x3), (8, .int 0), (9, .int 1)]) rfl ?_
    exact k1 x1 M1 w1 x2 M2 w2 x3 M3 w3 c0
theorem sX3_chooseFor_41 {v2 : Nat} {v3 : Int32} {v5 : Int32} {v6 : Int32} {v7 : Int32} {v8 : Int32} {v9 : Int32} {Q0 : Int32 → pg_M → Prop}
    (h0 : pg_isX3 Λ)
    (h1 : pg_isX9 Λ v2)
    (b0 : ((M.1 153 8) ≤ v9) → vp_in v3 6)
    (k0 : ((M.1 153 8) ≤ v9) → P none (pg_si M 155 v3.toNatClampNeg v8))
    (k1 : (¬ (M.1 153 8) ≤ v9) → (¬ (pg_bc v9) = v5) → pg_At S Λ YX3_chooseFor (d + 1) 41 [(0, .ref 153), (2, .ref v2), (3, .int v3), (5, .int v5), (6, .int v6), (7, .int v7), (8, .int v8), (9, .int (v9 + 1))] [] M P)
    (k2 : (¬ (M.1 153 8) ≤ v9) → ((pg_bc v9) = v5) → (¬ (v9 &&& v6) = 0) → pg_At S Λ YX3_chooseFor (d + 1) 41 [(0, .ref 153), (2, .ref v2), (3, .int v3), (5, .int v5), (6, .int v6), (7, .int v7), (8, .int v8), (9, .int (v9 + 1))] [] M P)
    (e0 : (¬ (M.1 153 8) ≤ v9) → ((pg_bc v9) = v5) → ((v9 &&& v6) = 0) → pg_Ev S Λ YX9_gripsOf d [.ref v2, .int v9] M (fun r M' => ∃ x, r = some (.int x) ∧ Q0 x M'))
    (k3 : (¬ (M.1 153 8) ≤ v9) → ((pg_bc v9) = v5) → ((v9 &&& v6) = 0) → ∀ x1 M1, Q0 x1 M1 → (x1 < v7) → pg_At S Λ YX3_chooseFor (d + 1) 41 [(0, .ref 153), (2, .ref v2), (3, .int v3), (5, .int v5), (6, .int v6), (7, .int v7), (8, .int v8), (9, .int (v9 + 1))] [] M1 P)
    (k4 : (¬ (M.1 153 8) ≤ v9) → ((pg_bc v9) = v5) → ((v9 &&& v6) = 0) → ∀ x1 M1, Q0 x1 M1 → (¬ x1 < v7) → (70 ≤ v8) → pg_At S Λ YX3_chooseFor (d + 1) 41 [(0, .ref 153), (2, .ref v2), (3, .int v3), (5, .int v5), (6, .int v6), (7, .int v7), (8, .int v8), (9, .int (v9 + 1))] [] M1 P)
    (b1 : (¬ (M.1 153 8) ≤ v9) → ((pg_bc v9) = v5) → ((v9 &&& v6) = 0) → ∀ x1 M1, Q0 x1 M1 → (¬ x1 < v7) → (¬ 70 ≤ v8) → vp_in ((v3 * 70) + v8) 420)
    (k5 : (¬ (M.1 153 8) ≤ v9) → ((pg_bc v9) = v5) → ((v9 &&& v6) = 0) → ∀ x1 M1, Q0 x1 M1 → (¬ x1 < v7) → (¬ 70 ≤ v8) → pg_At S Λ YX3_chooseFor (d + 1) 41 [(0, .ref 153), (2, .ref v2), (3, .int v3), (5, .int v5), (6, .int v6), (7, .int v7), (8, .int (v8 + 1)), (9, .int (v9 + 1))] [] (pg_si M1 154 ((v3 * 70) + v8).toNatClampNeg v9) P) :
    pg_At S Λ YX3_chooseFor (d + 1) 41 [(0, .ref 153), (2, .ref v2), (3, .int v3), (5, .int v5), (6, .int v6), (7, .int v7), (8, .int v8), (9, .int v9)] [] M P := by
  refine pg_iload (pc := 41) (i := 9) (j := 7) (x := v9) dX3_chooseFor_41 rfl ?_
  refine pg_aload_n (pc := 43) (i := 0) (j := 0) (x := 153) dX3_chooseFor_43 rfl rfl ?_
  refine gfX3_49 (pc := 44) rfl h0 dX3_chooseFor_44 ?_
  refine pg_icmp_ge (pc := 47) (tgt := 109) dX3_chooseFor_47 (by decide) (fun c0 => ?_) (fun c0 => ?_)
  · skip
    refine pg_aload_n (pc := 109) (i := 0) (j := 0) (x := 153) dX3_chooseFor_109 rfl rfl ?_
    refine gfX3_15 (pc := 110) rfl h0 dX3_chooseFor_110 ?_
    refine pg_iload_n (pc := 113) (i := 3) (j := 2) (x := v3) dX3_chooseFor_113 rfl rfl ?_
    refine pg_iload (pc := 114) (i := 8) (j := 6) (x := v8) dX3_chooseFor_114 rfl ?_
    refine pg_iast (pc := 116) h0.2.2.1 (b0 c0) dX3_chooseFor_116 ?_
    exact pg_vret (pc := 117) rfl dX3_chooseFor_117 (k0 c0)
  · skip
    refine pg_iload (pc := 50) (i := 9) (j := 7) (x := v9) dX3_chooseFor_50 rfl ?_
    refine pg_jbc (pc := 52) (st := []) lkX3_94 (Nat.le_of_ble_eq_true rfl) dX3_chooseFor_52 ?_
    refine pg_iload (pc := 55) (i := 5) (j := 3) (x := v5) dX3_chooseFor_55 rfl ?_
    refine pg_icmp_ne (pc := 57) (tgt := 103) dX3_chooseFor_57 (by decide) (fun c1 => ?_) (fun c1 => ?_)
    · skip
      refine pg_iinc (pc := 103) (i := 9) (j := 7) (x := v9) (v := v9 + 1) (ls' := [(9, .int (v9 + 1)), (0, .ref 153), (2, .ref v2), (3, .int v3), (5, .int v5), (6, .int v6), (7, .int v7), (8, .int v8)]) dX3_chooseFor_103 rfl rfl (by decide) rfl ?_
      refine pg_goto (pc := 106) (tgt := 41) dX3_chooseFor_106 (by decide) ?_
      refine pg_drop (ks := [1, 2, 3, 4, 5, 6, 7, 0]) (ls' := [(0, .ref 153), (2, .ref v2), (3, .int v3), (5, .int v5), (6, .int v6), (7, .int v7), (8, .int v8), (9, .int (v9 + 1))]) rfl ?_
      exact k1 c0 c1
    · skip
      refine pg_iload (pc := 60) (i := 9) (j := 7) (x := v9) dX3_chooseFor_60 rfl ?_
      refine pg_iload (pc := 62) (i := 6) (j := 4) (x := v6) dX3_chooseFor_62 rfl ?_
      refine pg_iand (pc := 64) dX3_chooseFor_64 ?_
      refine pg_if_ne (pc := 65) (tgt := 103) dX3_chooseFor_65 (by decide) (fun c2 => ?_) (fun c2 => ?_)
      · skip
        refine pg_iinc (pc := 103) (i := 9) (j := 7) (x := v9) (v := v9 + 1) (ls' := [(9, .int (v9 + 1)), (0, .ref 153), (2, .ref v2), (3, .int v3), (5, .int v5), (6, .int v6), (7, .int v7), (8, .int v8)]) dX3_chooseFor_103 rfl rfl (by decide) rfl ?_
        refine pg_goto (pc := 106) (tgt := 41) dX3_chooseFor_106 (by decide) ?_
        refine pg_drop (ks := [1, 2, 3, 4, 5, 6, 7, 0]) (ls' := [(0, .ref 153), (2, .ref v2), (3, .int v3), (5, .int v5), (6, .int v6), (7, .int v7), (8, .int v8), (9, .int (v9 + 1))]) rfl ?_
        exact k2 c0 c1 c2
      · skip
        refine pg_aload_n (pc := 68) (i := 2) (j := 1) (x := v2) dX3_chooseFor_68 rfl rfl ?_
        refine pg_iload (pc := 69) (i := 9) (j := 7) (x := v9) dX3_chooseFor_69 rfl ?_
        refine pg_callV (pc := 71) (As := [.int v9]) (st := []) okX9_gripsOf lkX3_99 rfl h1.1 rfl (Nat.le_refl _) (Nat.le_of_ble_eq_true rfl) (e0 c0 c1 c2) dX3_chooseFor_71 (fun r1 M1 w1 => ?_)
        obtain ⟨x1, rfl, w1⟩ := w1
        refine pg_iload (pc := 74) (i := 7) (j := 5) (x := v7) dX3_chooseFor_74 rfl ?_
        refine pg_icmp_lt (pc := 76) (tgt := 103) dX3_chooseFor_76 (by decide) (fun c3 => ?_) (fun c3 => ?_)
        · skip
          refine pg_iinc (pc := 103) (i := 9) (j := 7) (x := v9) (v := v9 + 1) (ls' := [(9, .int (v9 + 1)), (0, .ref 153), (2, .ref v2), (3, .int v3), (5, .int v5), (6, .int v6), (7, .int v7), (8, .int v8)]) dX3_chooseFor_103 rfl rfl (by decide) rfl ?_
          refine pg_goto (pc := 106) (tgt := 41) dX3_chooseFor_106 (by decide) ?_
          refine pg_drop (ks := [1, 2, 3, 4, 5, 6, 7, 0]) (ls' := [(0, .ref 153), (2, .ref v2), (3, .int v3), (5, .int v5), (6, .int v6), (7, .int v7), (8, .int v8), (9, .int (v9 + 1))]) rfl ?_
          exact k3 c0 c1 c2 x1 M1 w1 c3
        · skip
          refine pg_iload (pc := 79) (i := 8) (j := 6) (x := v8) dX3_chooseFor_79 rfl ?_
          refine pg_bipush (pc := 81) (v := 70) dX3_chooseFor_81 (by decide) ?_
          refine pg_icmp_ge (pc := 83) (tgt := 103) dX3_chooseFor_83 (by decide) (fun c4 => ?_) (fun c4 => ?_)
          · skip
            refine pg_iinc (pc := 103) (i := 9) (j := 7) (x := v9) (v := v9 + 1) (ls' := [(9, .int (v9 + 1)), (0, .ref 153), (2, .ref v2), (3, .int v3), (5, .int v5), (6, .int v6), (7, .int v7), (8, .int v8)]) dX3_chooseFor_103 rfl rfl (by decide) rfl ?_
            refine pg_goto (pc := 106) (tgt := 41) dX3_chooseFor_106 (by decide) ?_
            refine pg_drop (ks := [1, 2, 3, 4, 5, 6, 7, 0]) (ls' := [(0, .ref 153), (2, .ref v2), (3, .int v3), (5, .int v5), (6, .int v6), (7, .int v7), (8, .int v8), (9, .int (v9 + 1))]) rfl ?_
            exact k4 c0 c1 c2 x1 M1 w1 c3 c4
          · skip
            refine pg_aload_n (pc := 86) (i := 0) (j := 0) (x := 153) dX3_chooseFor_86 rfl rfl ?_
            refine gfX3_11 (pc := 87) rfl h0 dX3_chooseFor_87 ?_
            refine pg_iload_n (pc := 90) (i := 3) (j := 2) (x := v3) dX3_chooseFor_90 rfl rfl ?_
            refine pg_bipush (pc := 91) (v := 70) dX3_chooseFor_91 (by decide) ?_
            refine pg_imul (pc := 93) dX3_chooseFor_93 ?_
            refine pg_iload (pc := 94) (i := 8) (j := 6) (x := v8) dX3_chooseFor_94 rfl ?_
            refine pg_iadd (pc := 96) dX3_chooseFor_96 ?_
            refine pg_iload (pc := 97) (i := 9) (j := 7) (x := v9) dX3_chooseFor_97 rfl ?_
            refine pg_iast (pc := 99) h0.2.1 (b1 c0 c1 c2 x1 M1 w1 c3 c4) dX3_chooseFor_99 ?_
            refine pg_iinc (pc := 100) (i := 8) (j := 6) (x := v8) (v := v8 + 1) (ls' := [(8, .int (v8 + 1)), (0, .ref 153), (2, .ref v2), (3, .int v3), (5, .int v5), (6, .int v6), (7, .int v7), (9, .int v9)]) dX3_chooseFor_100 rfl rfl (by decide) rfl ?_
            refine pg_iinc (pc := 103) (i := 9) (j := 7) (x := v9) (v := v9 + 1) (ls' := [(9, .int (v9 + 1)), (8, .int (v8 + 1)), (0, .ref 153), (2, .ref v2), (3, .int v3), (5, .int v5), (6, .int v6), (7, .int v7)]) dX3_chooseFor_103 rfl rfl (by decide) rfl ?_
            refine pg_goto (pc := 106) (tgt := 41) dX3_chooseFor_106 (by decide) ?_
            refine pg_drop (ks := [2, 3, 4, 5, 6, 7, 1, 0]) (ls' := [(0, .ref 153), (2, .ref v2), (3, .int v3), (5, .int v5), (6, .int v6), (7, .int v7), (8, .int (v8 + 1)), (9, .int (v9 + 1))]) rfl ?_
            exact k5 c0 c1 c2 x1 M1 w1 c3 c4
theorem oX3_chooseFor {d : Nat} {v1 : Nat} {v2 : Nat} {v3 : Int32} {v4 : Int32} (h : pg_At S Λ YX3_chooseFor d 0 [(0, .ref 153), (1, .ref v1), (2, .ref v2), (3, .int v3), (4, .int v4)] [] M P) : pg_Ev S Λ YX3_chooseFor d [.ref 153, .ref v1, .ref v2, .int v3, .int v4] M P := pg_Ev.of (by decide) (by first | decide | exact Nat.le_of_ble_eq_true rfl) h
theorem sX3_mostPull_0 {v0 : Nat} {v1 : Nat} {v2 : Int32} {v3 : Int32} 
    (h0 : pg_isX9 Λ v1)
    (b0 : vp_in v2 6)
    (k0 : pg_At S Λ YX3_mostPull (d + 1) 14 [(0, .ref v0), (1, .ref v1), (2, .int v2), (3, .int v3), (4, .int (M.1 (v1 + 1) v2.toNatClampNeg)), (5, .int 0), (6, .int 0)] [] M P) :
    pg_At S Λ YX3_mostPull (d + 1) 0 [(0, .ref v0), (1, .ref v1), (2, .int v2), (3, .int v3)] [] M P := by
  refine pg_aload_n (pc := 0) (i := 1) (j := 1) (x := v1) dX3_mostPull_0 rfl rfl ?_
  refine gfX3_102 (pc := 1) rfl h0 dX3_mostPull_1 ?_
  refine pg_iload_n (pc := 4) (i := 2) (j := 2) (x := v2) dX3_mostPull_4 rfl rfl ?_
  refine pg_iald (pc := 5) h0.2.1 b0 dX3_mostPull_5 ?_
  refine pg_istore (pc := 6) (i := 4) (ls' := [(4, .int (M.1 (v1 + 1) v2.toNatClampNeg)), (0, .ref v0), (1, .ref v1), (2, .int v2), (3, .int v3)]) dX3_mostPull_6 (by decide) rfl ?_
  refine pg_iconst (pc := 8) (v := 0) dX3_mostPull_8 (by decide) ?_
  refine pg_istore (pc := 9) (i := 5) (ls' := [(5, .int 0), (4, .int (M.1 (v1 + 1) v2.toNatClampNeg)), (0, .ref v0), (1, .ref v1), (2, .int v2), (3, .int v3)]) dX3_mostPull_9 (by decide) rfl ?_
  refine pg_iconst (pc := 11) (v := 0) dX3_mostPull_11 (by decide) ?_
  refine pg_istore (pc := 12) (i := 6) (ls' := [(6, .int 0), (5, .int 0), (4, .int (M.1 (v1 + 1) v2.toNatClampNeg)), (0, .ref v0), (1, .ref v1), (2, .int v2), (3, .int v3)]) dX3_mostPull_12 (by decide) rfl ?_
  refine pg_drop (ks := [3, 4, 5, 6, 2, 1, 0]) (ls' := [(0, .ref v0), (1, .ref v1), (2, .int v2), (3, .int v3), (4, .int (M.1 (v1 + 1) v2.toNatClampNeg)), (5, .int 0), (6, .int 0)]) rfl ?_
  exact k0
theorem sX3_mostPull_14 {v0 : Nat} {v1 : Nat} {v2 : Int32} {v3 : Int32} {v4 : Int32} {v5 : Int32} {v6 : Int32} {Q0 : Int32 → pg_M → Prop} {Q1 : Int32 → pg_M → Prop} {Q2 : Int32 → pg_M → Prop}
    (h0 : pg_isX9 Λ v1)
    (h1 : pg_isX5 Λ v0)
    (k0 : (v3 ≤ v6) → P (some (.int v5)) M)
    (e0 : (¬ v3 ≤ v6) → pg_Ev S Λ YX5_windAt d [.ref v0, .int ((M.1 v1 5) + v6)] M (fun r M' => ∃ x, r = some (.int x) ∧ Q0 x M'))
    (e1 : (¬ v3 ≤ v6) → ∀ x1 M1, Q0 x1 M1 → pg_Ev S Λ YX5_pullOn d [.ref v0, .int v2, .int v4, .int x1] M1 (fun r M' => ∃ x, r = some (.int x) ∧ Q1 x M'))
    (e2 : (¬ v3 ≤ v6) → ∀ x1 M1, Q0 x1 M1 → ∀ x2 M2, Q1 x2 M2 → pg_Ev S Λ YX5_wetAfter d [.ref v0, .int v2, .int v4, .int x1] M2 (fun r M' => ∃ x, r = some (.int x) ∧ Q2 x M'))
    (k1 : (¬ v3 ≤ v6) → ∀ x1 M1, Q0 x1 M1 → ∀ x2 M2, Q1 x2 M2 → ∀ x3 M3, Q2 x3 M3 → pg_At S Λ YX3_mostPull (d + 1) 14 [(0, .ref v0), (1, .ref v1), (2, .int v2), (3, .int v3), (4, .int x3), (5, .int (pg_max v5 x2)), (6, .int (v6 + 1))] [] M3 P) :
    pg_At S Λ YX3_mostPull (d + 1) 14 [(0, .ref v0), (1, .ref v1), (2, .int v2), (3, .int v3), (4, .int v4), (5, .int v5), (6, .int v6)] [] M P := by
  refine pg_iload (pc := 14) (i := 6) (j := 6) (x := v6) dX3_mostPull_14 rfl ?_
  refine pg_iload_n (pc := 16) (i := 3) (j := 3) (x := v3) dX3_mostPull_16 rfl rfl ?_
  refine pg_icmp_ge (pc := 17) (tgt := 66) dX3_mostPull_17 (by decide) (fun c0 => ?_) (fun c0 => ?_)
  · skip
    refine pg_iload (pc := 66) (i := 5) (j := 5) (x := v5) dX3_mostPull_66 rfl ?_
    exact pg_iret (pc := 68) rfl dX3_mostPull_68 (k0 c0)
  · skip
    refine pg_aload_n (pc := 20) (i := 0) (j := 0) (x := v0) dX3_mostPull_20 rfl rfl ?_
    refine pg_aload_n (pc := 21) (i := 1) (j := 1) (x := v1) dX3_mostPull_21 rfl rfl ?_
    refine gfX3_105 (pc := 22) rfl h0 dX3_mostPull_22 ?_
    refine pg_iload (pc := 25) (i := 6) (j := 6) (x := v6) dX3_mostPull_25 rfl ?_
    refine pg_iadd (pc := 27) dX3_mostPull_27 ?_
    refine pg_callV (pc := 28) (As := [.int ((M.1 v1 5) + v6)]) (st := []) okX5_windAt lkX3_108 rfl h1.1 rfl (Nat.le_refl _) (Nat.le_of_ble_eq_true rfl) (e0 c0) dX3_mostPull_28 (fun r1 M1 w1 => ?_)
    obtain ⟨x1, rfl, w1⟩ := w1
    refine pg_istore (pc := 31) (i := 7) (ls' := [(7, .int x1), (0, .ref v0), (1, .ref v1), (2, .int v2), (3, .int v3), (4, .int v4), (5, .int v5), (6, .int v6)]) dX3_mostPull_31 (by decide) rfl ?_
    refine pg_iload (pc := 33) (i := 5) (j := 6) (x := v5) dX3_mostPull_33 rfl ?_
    refine pg_aload_n (pc := 35) (i := 0) (j := 1) (x := v0) dX3_mostPull_35 rfl rfl ?_
    refine pg_iload_n (pc := 36) (i := 2) (j := 3) (x := v2) dX3_mostPull_36 rfl rfl ?_
    refine pg_iload (pc := 37) (i := 4) (j := 5) (x := v4) dX3_mostPull_37 rfl ?_
    refine pg_iload (pc := 39) (i := 7) (j := 0) (x := x1) dX3_mostPull_39 rfl ?_
    refine pg_callV (pc := 41) (As := [.int v2, .int v4, .int x1]) (st := [.int v5]) okX5_pullOn lkX3_111 rfl h1.1 rfl (Nat.le_refl _) (Nat.le_of_ble_eq_true rfl) (e1 c0 x1 M1 w1) dX3_mostPull_41 (fun r2 M2 w2 => ?_)
    obtain ⟨x2, rfl, w2⟩ := w2
    refine pg_jmax (pc := 44) (st := []) lkX3_69 (Nat.le_of_ble_eq_true rfl) dX3_mostPull_44 ?_
    refine pg_istore (pc := 47) (i := 5) (ls' := [(5, .int (pg_max v5 x2)), (7, .int x1), (0, .ref v0), (1, .ref v1), (2, .int v2), (3, .int v3), (4, .int v4), (6, .int v6)]) dX3_mostPull_47 (by decide) rfl ?_
    refine pg_aload_n (pc := 49) (i := 0) (j := 2) (x := v0) dX3_mostPull_49 rfl rfl ?_
    refine pg_iload_n (pc := 50) (i := 2) (j := 4) (x := v2) dX3_mostPull_50 rfl rfl ?_
    refine pg_iload (pc := 51) (i := 4) (j := 6) (x := v4) dX3_mostPull_51 rfl ?_
    refine pg_iload (pc := 53) (i := 7) (j := 1) (x := x1) dX3_mostPull_53 rfl ?_
    refine pg_callV (pc := 55) (As := [.int v2, .int v4, .int x1]) (st := []) okX5_wetAfter lkX3_115 rfl h1.1 rfl (Nat.le_refl _) (Nat.le_of_ble_eq_true rfl) (e2 c0 x1 M1 w1 x2 M2 w2) dX3_mostPull_55 (fun r3 M3 w3 => ?_)
    obtain ⟨x3, rfl, w3⟩ := w3
    refine pg_istore (pc := 58) (i := 4) (ls' := [(4, .int x3), (5, .int (pg_max v5 x2)), (7, .int x1), (0, .ref v0), (1, .ref v1), (2, .int v2), (3, .int v3), (6, .int v6)]) dX3_mostPull_58 (by decide) rfl ?_
    refine pg_iinc (pc := 60) (i := 6) (j := 7) (x := v6) (v := v6 + 1) (ls' := [(6, .int (v6 + 1)), (4, .int x3), (5, .int (pg_max v5 x2)), (7, .int x1), (0, .ref v0), (1, .ref v1), (2, .int v2), (3, .int v3)]) dX3_mostPull_60 rfl rfl (by decide) rfl ?_
    refine pg_goto (pc := 63) (tgt := 14) dX3_mostPull_63 (by decide) ?_
    refine pg_drop (ks := [4, 5, 6, 7, 1, 2, 0]) (ls' := [(0, .ref v0), (1, .ref v1), (2, .int v2), (3, .int v3), (4, .int x3), (5, .int (pg_max v5 x2)), (6, .int (v6 + 1))]) rfl ?_
    exact k1 c0 x1 M1 w1 x2 M2 w2 x3 M3 w3
theorem oX3_mostPull {d : Nat} {v0 : Nat} {v1 : Nat} {v2 : Int32} {v3 : Int32} (h : pg_At S Λ YX3_mostPull d 0 [(0, .ref v0), (1, .ref v1), (2, .int v2), (3, .int v3)] [] M P) : pg_Ev S Λ YX3_mostPull d [.ref v0, .ref v1, .int v2, .int v3] M P := pg_Ev.of (by decide) (by first | decide | exact Nat.le_of_ble_eq_true rfl) h
theorem sX3_holdSet_0 {v1 : Nat} {v2 : Int32} 
    (h0 : pg_isX3 Λ)
    (h1 : pg_isX5 Λ v1)
    (b0 : vp_in (v2 &&& (((1 : Int32) <<< ((31 - (pg_nlz v2)) &&& 31)) ^^^ (-1))) 64)
    (b1 : vp_in (31 - (pg_nlz v2)) 6)
    (b2 : vp_in v2 64)
    (k0 : ∀ N1, N1 = pg_si M 156 v2.toNatClampNeg ((M.1 156 (v2 &&& (((1 : Int32) <<< ((31 - (pg_nlz v2)) &&& 31)) ^^^ (-1))).toNatClampNeg) + (M.1 (v1 + 3) (31 - (pg_nlz v2)).toNatClampNeg)) → ∀ N2, N2 = pg_si N1 157 v2.toNatClampNeg ((N1.1 157 (v2 &&& (((1 : Int32) <<< ((31 - (pg_nlz v2)) &&& 31)) ^^^ (-1))).toNatClampNeg) + (N1.1 (v1 + 5) (31 - (pg_nlz v2)).toNatClampNeg)) → (((pg_si N2 158 v2.toNatClampNeg (vp_nar .boolean 0)).1 158 (v2 &&& (((1 : Int32) <<< ((31 - (pg_nlz v2)) &&& 31)) ^^^ (-1))).toNatClampNeg) = 0) → P none (pg_si N2 158 v2.toNatClampNeg (vp_nar .boolean 0)))
    (k1 : ∀ N1, N1 = pg_si M 156 v2.toNatClampNeg ((M.1 156 (v2 &&& (((1 : Int32) <<< ((31 - (pg_nlz v2)) &&& 31)) ^^^ (-1))).toNatClampNeg) + (M.1 (v1 + 3) (31 - (pg_nlz v2)).toNatClampNeg)) → ∀ N2, N2 = pg_si N1 157 v2.toNatClampNeg ((N1.1 157 (v2 &&& (((1 : Int32) <<< ((31 - (pg_nlz v2)) &&& 31)) ^^^ (-1))).toNatClampNeg) + (N1.1 (v1 + 5) (31 - (pg_nlz v2)).toNatClampNeg)) → (¬ ((pg_si N2 158 v2.toNatClampNeg (vp_nar .boolean 0)).1 158 (v2 &&& (((1 : Int32) <<< ((31 - (pg_nlz v2)) &&& 31)) ^^^ (-1))).toNatClampNeg) = 0) → (((pg_si N2 158 v2.toNatClampNeg (vp_nar .boolean 0)).1 v1 13) < ((pg_si N2 158 v2.toNatClampNeg (vp_nar .boolean 0)).1 156 v2.toNatClampNeg)) → P none (pg_si N2 158 v2.toNatClampNeg (vp_nar .boolean 0)))
    (k2 : ∀ N1, N1 = pg_si M 156 v2.toNatClampNeg ((M.1 156 (v2 &&& (((1 : Int32) <<< ((31 - (pg_nlz v2)) &&& 31)) ^^^ (-1))).toNatClampNeg) + (M.1 (v1 + 3) (31 - (pg_nlz v2)).toNatClampNeg)) → ∀ N2, N2 = pg_si N1 157 v2.toNatClampNeg ((N1.1 157 (v2 &&& (((1 : Int32) <<< ((31 - (pg_nlz v2)) &&& 31)) ^^^ (-1))).toNatClampNeg) + (N1.1 (v1 + 5) (31 - (pg_nlz v2)).toNatClampNeg)) → (¬ ((pg_si N2 158 v2.toNatClampNeg (vp_nar .boolean 0)).1 158 (v2 &&& (((1 : Int32) <<< ((31 - (pg_nlz v2)) &&& 31)) ^^^ (-1))).toNatClampNeg) = 0) → (¬ ((pg_si N2 158 v2.toNatClampNeg (vp_nar .boolean 0)).1 v1 13) < ((pg_si N2 158 v2.toNatClampNeg (vp_nar .boolean 0)).1 156 v2.toNatClampNeg)) → (¬ ((pg_si N2 158 v2.toNatClampNeg (vp_nar .boolean 0)).1 155 (31 - (pg_nlz v2)).toNatClampNeg) = 0) → pg_At S Λ YX3_holdSet (d + 1) 100 [(0, .ref 153), (2, .int v2), (3, .int (31 - (pg_nlz v2))), (4, .int (v2 &&& (((1 : Int32) <<< ((31 - (pg_nlz v2)) &&& 31)) ^^^ (-1)))), (5, .int 0)] [] (pg_si N2 158 v2.toNatClampNeg (vp_nar .boolean 0)) P)
    (k3 : ∀ N1, N1 = pg_si M 156 v2.toNatClampNeg ((M.1 156 (v2 &&& (((1 : Int32) <<< ((31 - (pg_nlz v2)) &&& 31)) ^^^ (-1))).toNatClampNeg) + (M.1 (v1 + 3) (31 - (pg_nlz v2)).toNatClampNeg)) → ∀ N2, N2 = pg_si N1 157 v2.toNatClampNeg ((N1.1 157 (v2 &&& (((1 : Int32) <<< ((31 - (pg_nlz v2)) &&& 31)) ^^^ (-1))).toNatClampNeg) + (N1.1 (v1 + 5) (31 - (pg_nlz v2)).toNatClampNeg)) → (¬ ((pg_si N2 158 v2.toNatClampNeg (vp_nar .boolean 0)).1 158 (v2 &&& (((1 : Int32) <<< ((31 - (pg_nlz v2)) &&& 31)) ^^^ (-1))).toNatClampNeg) = 0) → (¬ ((pg_si N2 158 v2.toNatClampNeg (vp_nar .boolean 0)).1 v1 13) < ((pg_si N2 158 v2.toNatClampNeg (vp_nar .boolean 0)).1 156 v2.toNatClampNeg)) → (((pg_si N2 158 v2.toNatClampNeg (vp_nar .boolean 0)).1 155 (31 - (pg_nlz v2)).toNatClampNeg) = 0) → P none (pg_si N2 158 v2.toNatClampNeg (vp_nar .boolean 0))) :
    pg_At S Λ YX3_holdSet (d + 1) 0 [(0, .ref 153), (1, .ref v1), (2, .int v2)] [] M P := by
  refine pg_bipush (pc := 0) (v := 31) dX3_holdSet_0 (by decide) ?_
  refine pg_iload_n (pc := 2) (i := 2) (j := 2) (x := v2) dX3_holdSet_2 rfl rfl ?_
  refine pg_jnlz (pc := 3) (st := [.int 31]) lkX3_118 (Nat.le_of_ble_eq_true rfl) dX3_holdSet_3 ?_
  refine pg_isub (pc := 6) dX3_holdSet_6 ?_
  refine pg_istore_n (pc := 7) (i := 3) (ls' := [(3, .int (31 - (pg_nlz v2))), (0, .ref 153), (1, .ref v1), (2, .int v2)]) dX3_holdSet_7 rfl (by decide) rfl ?_
  refine pg_iload_n (pc := 8) (i := 2) (j := 3) (x := v2) dX3_holdSet_8 rfl rfl ?_
  refine pg_iconst (pc := 9) (v := 1) dX3_holdSet_9 (by decide) ?_
  refine pg_iload_n (pc := 10) (i := 3) (j := 0) (x := (31 - (pg_nlz v2))) dX3_holdSet_10 rfl rfl ?_
  refine pg_ishl (pc := 11) dX3_holdSet_11 ?_
  refine pg_iconst (pc := 12) (v := (-1)) dX3_holdSet_12 (by decide) ?_
  refine pg_ixor (pc := 13) dX3_holdSet_13 ?_
  refine pg_iand (pc := 14) dX3_holdSet_14 ?_
  refine pg_istore (pc := 15) (i := 4) (ls' := [(4, .int (v2 &&& (((1 : Int32) <<< ((31 - (pg_nlz v2)) &&& 31)) ^^^ (-1)))), (3, .int (31 - (pg_nlz v2))), (0, .ref 153), (1, .ref v1), (2, .int v2)]) dX3_holdSet_15 (by decide) rfl ?_
  refine pg_aload_n (pc := 17) (i := 0) (j := 2) (x := 153) dX3_holdSet_17 rfl rfl ?_
  refine gfX3_18 (pc := 18) rfl h0 dX3_holdSet_18 ?_
  refine pg_iload_n (pc := 21) (i := 2) (j := 4) (x := v2) dX3_holdSet_21 rfl rfl ?_
  refine pg_aload_n (pc := 22) (i := 0) (j := 2) (x := 153) dX3_holdSet_22 rfl rfl ?_
  refine gfX3_18 (pc := 23) rfl h0 dX3_holdSet_23 ?_
  refine pg_iload (pc := 26) (i := 4) (j := 0) (x := (v2 &&& (((1 : Int32) <<< ((31 - (pg_nlz v2)) &&& 31)) ^^^ (-1)))) dX3_holdSet_26 rfl ?_
  refine pg_iald (pc := 28) h0.2.2.2.1 b0 dX3_holdSet_28 ?_
  refine pg_aload_n (pc := 29) (i := 1) (j := 3) (x := v1) dX3_holdSet_29 rfl rfl ?_
  refine gfX3_121 (pc := 30) rfl h1 dX3_holdSet_30 ?_
  refine pg_iload_n (pc := 33) (i := 3) (j := 1) (x := (31 - (pg_nlz v2))) dX3_holdSet_33 rfl rfl ?_
  refine pg_iald (pc := 34) h1.2.2.2.1 b1 dX3_holdSet_34 ?_
  refine pg_iadd (pc := 35) dX3_holdSet_35 ?_
  refine pg_iast (pc := 36) h0.2.2.2.1 b2 dX3_holdSet_36 ?_
  refine pg_named (fun N1 u1 => ?_)
  refine pg_aload_n (pc := 37) (i := 0) (j := 2) (x := 153) dX3_holdSet_37 rfl rfl ?_
  refine gfX3_21 (pc := 38) rfl h0 dX3_holdSet_38 ?_
  refine pg_iload_n (pc := 41) (i := 2) (j := 4) (x := v2) dX3_holdSet_41 rfl rfl ?_
  refine pg_aload_n (pc := 42) (i := 0) (j := 2) (x := 153) dX3_holdSet_42 rfl rfl ?_
  refine gfX3_21 (pc := 43) rfl h0 dX3_holdSet_43 ?_
  refine pg_iload (pc := 46) (i := 4) (j := 0) (x := (v2 &&& (((1 : Int32) <<< ((31 - (pg_nlz v2)) &&& 31)) ^^^ (-1)))) dX3_holdSet_46 rfl ?_
  refine pg_iald (pc := 48) h0.2.2.2.2.1 b0 dX3_holdSet_48 ?_
  refine pg_aload_n (pc := 49) (i := 1) (j := 3) (x := v1) dX3_holdSet_49 rfl rfl ?_
  refine gfX3_122 (pc := 50) rfl h1 dX3_holdSet_50 ?_
  refine pg_iload_n (pc := 53) (i := 3) (j := 1) (x := (31 - (pg_nlz v2))) dX3_holdSet_53 rfl rfl ?_
  refine pg_iald (pc := 54) h1.2.2.2.2.2.1 b1 dX3_holdSet_54 ?_
  refine pg_iadd (pc := 55) dX3_holdSet_55 ?_
  refine pg_iast (pc := 56) h0.2.2.2.2.1 b2 dX3_holdSet_56 ?_
  refine pg_named (fun N2 u2 => ?_)
  refine pg_aload_n (pc := 57) (i := 0) (j := 2) (x := 153) dX3_holdSet_57 rfl rfl ?_
  refine gfX3_24 (pc := 58) rfl h0 dX3_holdSet_58 ?_
  refine pg_iload_n (pc := 61) (i := 2) (j := 4) (x := v2) dX3_holdSet_61 rfl rfl ?_
  refine pg_iconst (pc := 62) (v := 0) dX3_holdSet_62 (by decide) ?_
  refine pg_zast (pc := 63) h0.2.2.2.2.2.1 b2 dX3_holdSet_63 ?_
  refine pg_aload_n (pc := 64) (i := 0) (j := 2) (x := 153) dX3_holdSet_64 rfl rfl ?_
  refine gfX3_24 (pc := 65) rfl h0 dX3_holdSet_65 ?_
  refine pg_iload (pc := 68) (i := 4) (j := 0) (x := (v2 &&& (((1 : Int32) <<< ((31 - (pg_nlz v2)) &&& 31)) ^^^ (-1)))) dX3_holdSet_68 rfl ?_
  refine pg_zald (pc := 70) h0.2.2.2.2.2.1 b0 dX3_holdSet_70 ?_
  refine pg_if_eq (pc := 71) (tgt := 96) dX3_holdSet_71 (by decide) (fun c0 => ?_) (fun c0 => ?_)
  · skip
    exact pg_vret (pc := 96) rfl dX3_holdSet_96 (k0 N1 u1 N2 u2 c0)
  · skip
    refine pg_aload_n (pc := 74) (i := 0) (j := 2) (x := 153) dX3_holdSet_74 rfl rfl ?_
    refine gfX3_18 (pc := 75) rfl h0 dX3_holdSet_75 ?_
    refine pg_iload_n (pc := 78) (i := 2) (j := 4) (x := v2) dX3_holdSet_78 rfl rfl ?_
    refine pg_iald (pc := 79) h0.2.2.2.1 b2 dX3_holdSet_79 ?_
    refine pg_aload_n (pc := 80) (i := 1) (j := 3) (x := v1) dX3_holdSet_80 rfl rfl ?_
    refine gfX3_123 (pc := 81) rfl h1 dX3_holdSet_81 ?_
    refine pg_icmp_gt (pc := 84) (tgt := 96) dX3_holdSet_84 (by decide) (fun c1 => ?_) (fun c1 => ?_)
    · skip
      exact pg_vret (pc := 96) rfl dX3_holdSet_96 (k1 N1 u1 N2 u2 c0 c1)
    · skip
      refine pg_aload_n (pc := 87) (i := 0) (j := 2) (x := 153) dX3_holdSet_87 rfl rfl ?_
      refine gfX3_15 (pc := 88) rfl h0 dX3_holdSet_88 ?_
      refine pg_iload_n (pc := 91) (i := 3) (j := 1) (x := (31 - (pg_nlz v2))) dX3_holdSet_91 rfl rfl ?_
      refine pg_iald (pc := 92) h0.2.2.1 b1 dX3_holdSet_92 ?_
      refine pg_if_ne (pc := 93) (tgt := 97) dX3_holdSet_93 (by decide) (fun c2 => ?_) (fun c2 => ?_)
      · skip
        refine pg_iconst (pc := 97) (v := 0) dX3_holdSet_97 (by decide) ?_
        refine pg_istore (pc := 98) (i := 5) (ls' := [(5, .int 0), (4, .int (v2 &&& (((1 : Int32) <<< ((31 - (pg_nlz v2)) &&& 31)) ^^^ (-1)))), (3, .int (31 - (pg_nlz v2))), (0, .ref 153), (1, .ref v1), (2, .int v2)]) dX3_holdSet_98 (by decide) rfl ?_
        refine pg_drop (ks := [3, 5, 2, 1, 0]) (ls' := [(0, .ref 153), (2, .int v2), (3, .int (31 - (pg_nlz v2))), (4, .int (v2 &&& (((1 : Int32) <<< ((31 - (pg_nlz v2)) &&& 31)) ^^^ (-1)))), (5, .int 0)]) rfl ?_
        exact k2 N1 u1 N2 u2 c0 c1 c2
      · skip
        exact pg_vret (pc := 96) rfl dX3_holdSet_96 (k3 N1 u1 N2 u2 c0 c1 c2)
theorem sX3_holdSet_100 {v2 : Int32} {v3 : Int32} {v4 : Int32} {v5 : Int32} {Q0 : Int32 → pg_M → Prop} {Q1 : pg_M → Prop}
    (h0 : pg_isX3 Λ)
    (k0 : ((M.1 153 8) ≤ v5) → P none M)
    (e0 : (¬ (M.1 153 8) ≤ v5) → pg_Ev S Λ YX3_holdsBy d [.ref 153, .int v4, .int v5] M (fun r M' => ∃ x, r = some (.int x) ∧ Q0 x M'))
    (k1 : (¬ (M.1 153 8) ≤ v5) → ∀ x1 M1, Q0 x1 M1 → (x1 = 0) → pg_At S Λ YX3_holdSet (d + 1) 100 [(0, .ref 153), (2, .int v2), (3, .int v3), (4, .int v4), (5, .int (v5 + 1))] [] M1 P)
    (e1 : (¬ (M.1 153 8) ≤ v5) → ∀ x1 M1, Q0 x1 M1 → (¬ x1 = 0) → pg_Ev S Λ YX3_holdMore d [.ref 153, .int v2, .int v3, .int v5] M1 (fun r M' => r = none ∧ Q1 M'))
    (k2 : (¬ (M.1 153 8) ≤ v5) → ∀ x1 M1, Q0 x1 M1 → (¬ x1 = 0) → ∀ M2, Q1 M2 → pg_At S Λ YX3_holdSet (d + 1) 100 [(0, .ref 153), (2, .int v2), (3, .int v3), (4, .int v4), (5, .int (v5 + 1))] [] M2 P) :
    pg_At S Λ YX3_holdSet (d + 1) 100 [(0, .ref 153), (2, .int v2), (3, .int v3), (4, .int v4), (5, .int v5)] [] M P := by
  refine pg_iload (pc := 100) (i := 5) (j := 4) (x := v5) dX3_holdSet_100 rfl ?_
  refine pg_aload_n (pc := 102) (i := 0) (j := 0) (x := 153) dX3_holdSet_102 rfl rfl ?_
  refine gfX3_49 (pc := 103) rfl h0 dX3_holdSet_103 ?_
  refine pg_icmp_ge (pc := 106) (tgt := 134) dX3_holdSet_106 (by decide) (fun c0 => ?_) (fun c0 => ?_)
  · skip
    exact pg_vret (pc := 134) rfl dX3_holdSet_134 (k0 c0)
  · skip
    refine pg_aload_n (pc := 109) (i := 0) (j := 0) (x := 153) dX3_holdSet_109 rfl rfl ?_
    refine pg_iload (pc := 110) (i := 4) (j := 3) (x := v4) dX3_holdSet_110 rfl ?_
    refine pg_iload (pc := 112) (i := 5) (j := 4) (x := v5) dX3_holdSet_112 rfl ?_
    refine pg_callV (pc := 114) (As := [.int v4, .int v5]) (st := []) okX3_holdsBy lkX3_126 rfl h0.1 rfl (Nat.le_refl _) (Nat.le_of_ble_eq_true rfl) (e0 c0) dX3_holdSet_114 (fun r1 M1 w1 => ?_)
    obtain ⟨x1, rfl, w1⟩ := w1
    refine pg_if_eq (pc := 117) (tgt := 128) dX3_holdSet_117 (by decide) (fun c1 => ?_) (fun c1 => ?_)
    · skip
      refine pg_iinc (pc := 128) (i := 5) (j := 4) (x := v5) (v := v5 + 1) (ls' := [(5, .int (v5 + 1)), (0, .ref 153), (2, .int v2), (3, .int v3), (4, .int v4)]) dX3_holdSet_128 rfl rfl (by decide) rfl ?_
      refine pg_goto (pc := 131) (tgt := 100) dX3_holdSet_131 (by decide) ?_
      refine pg_drop (ks := [1, 2, 3, 4, 0]) (ls' := [(0, .ref 153), (2, .int v2), (3, .int v3), (4, .int v4), (5, .int (v5 + 1))]) rfl ?_
      exact k1 c0 x1 M1 w1 c1
    · skip
      refine pg_aload_n (pc := 120) (i := 0) (j := 0) (x := 153) dX3_holdSet_120 rfl rfl ?_
      refine pg_iload_n (pc := 121) (i := 2) (j := 1) (x := v2) dX3_holdSet_121 rfl rfl ?_
      refine pg_iload_n (pc := 122) (i := 3) (j := 2) (x := v3) dX3_holdSet_122 rfl rfl ?_
      refine pg_iload (pc := 123) (i := 5) (j := 4) (x := v5) dX3_holdSet_123 rfl ?_
      refine pg_callV (pc := 125) (As := [.int v2, .int v3, .int v5]) (st := []) okX3_holdMore lkX3_130 rfl h0.1 rfl (Nat.le_refl _) (Nat.le_of_ble_eq_true rfl) (e1 c0 x1 M1 w1 c1) dX3_holdSet_125 (fun r2 M2 w2 => ?_)
      obtain ⟨rfl, w2⟩ := w2
      refine pg_iinc (pc := 128) (i := 5) (j := 4) (x := v5) (v := v5 + 1) (ls' := [(5, .int (v5 + 1)), (0, .ref 153), (2, .int v2), (3, .int v3), (4, .int v4)]) dX3_holdSet_128 rfl rfl (by decide) rfl ?_
      refine pg_goto (pc := 131) (tgt := 100) dX3_holdSet_131 (by decide) ?_
      refine pg_drop (ks := [1, 2, 3, 4, 0]) (ls' := [(0, .ref 153), (2, .int v2), (3, .int v3), (4, .int v4), (5, .int (v5 + 1))]) rfl ?_
      exact k2 c0 x1 M1 w1 c1 M2 w2
theorem oX3_holdSet {d : Nat} {v1 : Nat} {v2 : Int32} (h : pg_At S Λ YX3_holdSet d 0 [(0, .ref 153), (1, .ref v1), (2, .int v2)] [] M P) : pg_Ev S Λ YX3_holdSet d [.ref 153, .ref v1, .int v2] M P := pg_Ev.of (by decide) (by first | decide | exact Nat.le_of_ble_eq_true rfl) h
theorem sX3_holdMore_0 {v1 : Int32} {v2 : Int32} {v3 : Int32} 
    (k0 : pg_At S Λ YX3_holdMore d 10 [(0, .ref 153), (1, .int v1), (2, .int v2), (3, .int v3), (4, .int (v2 * 70)), (5, .int (v2 * 70))] [] M P) :
    pg_At S Λ YX3_holdMore d 0 [(0, .ref 153), (1, .int v1), (2, .int v2), (3, .int v3)] [] M P := by
  refine pg_iload_n (pc := 0) (i := 2) (j := 2) (x := v2) dX3_holdMore_0 rfl rfl ?_
  refine pg_bipush (pc := 1) (v := 70) dX3_holdMore_1 (by decide) ?_
  refine pg_imul (pc := 3) dX3_holdMore_3 ?_
  refine pg_istore (pc := 4) (i := 4) (ls' := [(4, .int (v2 * 70)), (0, .ref 153), (1, .int v1), (2, .int v2), (3, .int v3)]) dX3_holdMore_4 (by decide) rfl ?_
  refine pg_iload (pc := 6) (i := 4) (j := 0) (x := (v2 * 70)) dX3_holdMore_6 rfl ?_
  refine pg_istore (pc := 8) (i := 5) (ls' := [(5, .int (v2 * 70)), (4, .int (v2 * 70)), (0, .ref 153), (1, .int v1), (2, .int v2), (3, .int v3)]) dX3_holdMore_8 (by decide) rfl ?_
  refine pg_drop (ks := [2, 3, 4, 5, 1, 0]) (ls' := [(0, .ref 153), (1, .int v1), (2, .int v2), (3, .int v3), (4, .int (v2 * 70)), (5, .int (v2 * 70))]) rfl ?_
  exact k0
theorem sX3_holdMore_10 {v1 : Int32} {v2 : Int32} {v3 : Int32} {v4 : Int32} {v5 : Int32} 
    (h0 : pg_isX3 Λ)
    (b0 : vp_in v2 6)
    (k0 : ((v4 + (M.1 155 v2.toNatClampNeg)) ≤ v5) → P none M)
    (b1 : (¬ (v4 + (M.1 155 v2.toNatClampNeg)) ≤ v5) → vp_in v5 420)
    (k1 : (¬ (v4 + (M.1 155 v2.toNatClampNeg)) ≤ v5) → (¬ ((M.1 154 v5.toNatClampNeg) &&& v3) = 0) → pg_At S Λ YX3_holdMore d 10 [(0, .ref 153), (1, .int v1), (2, .int v2), (3, .int v3), (4, .int v4), (5, .int (v5 + 1))] [] M P)
    (b2 : (¬ (v4 + (M.1 155 v2.toNatClampNeg)) ≤ v5) → (((M.1 154 v5.toNatClampNeg) &&& v3) = 0) → vp_in ((v1 * 4) + (((M.1 154 v5.toNatClampNeg) ||| v3) >>> ((6 : Int32) &&& 31))) 256)
    (b3 : (¬ (v4 + (M.1 155 v2.toNatClampNeg)) ≤ v5) → (((M.1 154 v5.toNatClampNeg) &&& v3) = 0) → ∀ y1, y1 = ((M.2.1 159 ((v1 * 4) + (((M.1 154 v5.toNatClampNeg) ||| v3) >>> ((6 : Int32) &&& 31))).toNatClampNeg) ||| ((1 : Int64) <<< ((((M.1 154 v5.toNatClampNeg) ||| v3) &&& 63).toInt64 &&& 63))) → vp_in v1 64)
    (k2 : (¬ (v4 + (M.1 155 v2.toNatClampNeg)) ≤ v5) → (((M.1 154 v5.toNatClampNeg) &&& v3) = 0) → ∀ y1, y1 = ((M.2.1 159 ((v1 * 4) + (((M.1 154 v5.toNatClampNeg) ||| v3) >>> ((6 : Int32) &&& 31))).toNatClampNeg) ||| ((1 : Int64) <<< ((((M.1 154 v5.toNatClampNeg) ||| v3) &&& 63).toInt64 &&& 63))) → ∀ N2, N2 = pg_si (pg_sj M 159 ((v1 * 4) + (((M.1 154 v5.toNatClampNeg) ||| v3) >>> ((6 : Int32) &&& 31))).toNatClampNeg y1) 158 v1.toNatClampNeg (vp_nar .boolean 1) → pg_At S Λ YX3_holdMore d 10 [(0, .ref 153), (1, .int v1), (2, .int v2), (3, .int v3), (4, .int v4), (5, .int (v5 + 1))] [] N2 P) :
    pg_At S Λ YX3_holdMore d 10 [(0, .ref 153), (1, .int v1), (2, .int v2), (3, .int v3), (4, .int v4), (5, .int v5)] [] M P := by
  refine pg_iload (pc := 10) (i := 5) (j := 5) (x := v5) dX3_holdMore_10 rfl ?_
  refine pg_iload (pc := 12) (i := 4) (j := 4) (x := v4) dX3_holdMore_12 rfl ?_
  refine pg_aload_n (pc := 14) (i := 0) (j := 0) (x := 153) dX3_holdMore_14 rfl rfl ?_
  refine gfX3_15 (pc := 15) rfl h0 dX3_holdMore_15 ?_
  refine pg_iload_n (pc := 18) (i := 2) (j := 2) (x := v2) dX3_holdMore_18 rfl rfl ?_
  refine pg_iald (pc := 19) h0.2.2.1 b0 dX3_holdMore_19 ?_
  refine pg_iadd (pc := 20) dX3_holdMore_20 ?_
  refine pg_icmp_ge (pc := 21) (tgt := 84) dX3_holdMore_21 (by decide) (fun c0 => ?_) (fun c0 => ?_)
  · skip
    exact pg_vret (pc := 84) rfl dX3_holdMore_84 (k0 c0)
  · skip
    refine pg_aload_n (pc := 24) (i := 0) (j := 0) (x := 153) dX3_holdMore_24 rfl rfl ?_
    refine gfX3_11 (pc := 25) rfl h0 dX3_holdMore_25 ?_
    refine pg_iload (pc := 28) (i := 5) (j := 5) (x := v5) dX3_holdMore_28 rfl ?_
    refine pg_iald (pc := 30) h0.2.1 (b1 c0) dX3_holdMore_30 ?_
    refine pg_iload_n (pc := 31) (i := 3) (j := 3) (x := v3) dX3_holdMore_31 rfl rfl ?_
    refine pg_iand (pc := 32) dX3_holdMore_32 ?_
    refine pg_if_ne (pc := 33) (tgt := 78) dX3_holdMore_33 (by decide) (fun c1 => ?_) (fun c1 => ?_)
    · skip
      refine pg_iinc (pc := 78) (i := 5) (j := 5) (x := v5) (v := v5 + 1) (ls' := [(5, .int (v5 + 1)), (0, .ref 153), (1, .int v1), (2, .int v2), (3, .int v3), (4, .int v4)]) dX3_holdMore_78 rfl rfl (by decide) rfl ?_
      refine pg_goto (pc := 81) (tgt := 10) dX3_holdMore_81 (by decide) ?_
      refine pg_drop (ks := [1, 2, 3, 4, 5, 0]) (ls' := [(0, .ref 153), (1, .int v1), (2, .int v2), (3, .int v3), (4, .int v4), (5, .int (v5 + 1))]) rfl ?_
      exact k1 c0 c1
    · skip
      refine pg_aload_n (pc := 36) (i := 0) (j := 0) (x := 153) dX3_holdMore_36 rfl rfl ?_
      refine gfX3_11 (pc := 37) rfl h0 dX3_holdMore_37 ?_
      refine pg_iload (pc := 40) (i := 5) (j := 5) (x := v5) dX3_holdMore_40 rfl ?_
      refine pg_iald (pc := 42) h0.2.1 (b1 c0) dX3_holdMore_42 ?_
      refine pg_iload_n (pc := 43) (i := 3) (j := 3) (x := v3) dX3_holdMore_43 rfl rfl ?_
      refine pg_ior (pc := 44) dX3_holdMore_44 ?_
      refine pg_istore (pc := 45) (i := 6) (ls' := [(6, .int ((M.1 154 v5.toNatClampNeg) ||| v3)), (0, .ref 153), (1, .int v1), (2, .int v2), (3, .int v3), (4, .int v4), (5, .int v5)]) dX3_holdMore_45 (by decide) rfl ?_
      refine pg_aload_n (pc := 47) (i := 0) (j := 1) (x := 153) dX3_holdMore_47 rfl rfl ?_
      refine gfX3_28 (pc := 48) rfl h0 dX3_holdMore_48 ?_
      refine pg_iload_n (pc := 51) (i := 1) (j := 2) (x := v1) dX3_holdMore_51 rfl rfl ?_
      refine pg_iconst (pc := 52) (v := 4) dX3_holdMore_52 (by decide) ?_
      refine pg_imul (pc := 53) dX3_holdMore_53 ?_
      refine pg_iload (pc := 54) (i := 6) (j := 0) (x := ((M.1 154 v5.toNatClampNeg) ||| v3)) dX3_holdMore_54 rfl ?_
      refine pg_bipush (pc := 56) (v := 6) dX3_holdMore_56 (by decide) ?_
      refine pg_ishr (pc := 58) dX3_holdMore_58 ?_
      refine pg_iadd (pc := 59) dX3_holdMore_59 ?_
      refine pg_dup2_11 (pc := 60) dX3_holdMore_60 rfl rfl ?_
      refine pg_lald (pc := 61) h0.2.2.2.2.2.2.1 (b2 c0 c1) dX3_holdMore_61 ?_
      refine pg_lconst (pc := 62) (v := 1) dX3_holdMore_62 (by decide) ?_
      refine pg_iload (pc := 63) (i := 6) (j := 0) (x := ((M.1 154 v5.toNatClampNeg) ||| v3)) dX3_holdMore_63 rfl ?_
      refine pg_bipush (pc := 65) (v := 63) dX3_holdMore_65 (by decide) ?_
      refine pg_iand (pc := 67) dX3_holdMore_67 ?_
      refine pg_lshl (pc := 68) dX3_holdMore_68 rfl ?_
      refine pg_lor (pc := 69) dX3_holdMore_69 ?_
      refine pg_topj (fun y1 u1 => ?_)
      refine pg_last (pc := 70) h0.2.2.2.2.2.2.1 (b2 c0 c1) dX3_holdMore_70 ?_
      refine pg_aload_n (pc := 71) (i := 0) (j := 1) (x := 153) dX3_holdMore_71 rfl rfl ?_
      refine gfX3_24 (pc := 72) rfl h0 dX3_holdMore_72 ?_
      refine pg_iload_n (pc := 75) (i := 1) (j := 2) (x := v1) dX3_holdMore_75 rfl rfl ?_
      refine pg_iconst (pc := 76) (v := 1) dX3_holdMore_76 (by decide) ?_
      refine pg_zast (pc := 77) h0.2.2.2.2.2.1 (b3 c0 c1 y1 u1) dX3_holdMore_77 ?_
      refine pg_named (fun N2 u2 => ?_)
      refine pg_iinc (pc := 78) (i := 5) (j := 6) (x := v5) (v := v5 + 1) (ls' := [(5, .int (v5 + 1)), (6, .int ((M.1 154 v5.toNatClampNeg) ||| v3)), (0, .ref 153), (1, .int v1), (2, .int v2), (3, .int v3), (4, .int v4)]) dX3_holdMore_78 rfl rfl (by decide) rfl ?_
      refine pg_goto (pc := 81) (tgt := 10) dX3_holdMore_81 (by decide) ?_
      refine pg_drop (ks := [2, 3, 4, 5, 6, 0]) (ls' := [(0, .ref 153), (1, .int v1), (2, .int v2), (3, .int v3), (4, .int v4), (5, .int (v5 + 1))]) rfl ?_
      exact k2 c0 c1 y1 u1 N2 u2
theorem oX3_holdMore {d : Nat} {v1 : Int32} {v2 : Int32} {v3 : Int32} (h : pg_At S Λ YX3_holdMore d 0 [(0, .ref 153), (1, .int v1), (2, .int v2), (3, .int v3)] [] M P) : pg_Ev S Λ YX3_holdMore d [.ref 153, .int v1, .int v2, .int v3] M P := pg_Ev.of (by decide) (by first | decide | exact Nat.le_of_ble_eq_true rfl) h
theorem sX3_holdsBy_0 {v1 : Int32} {v2 : Int32} 
    (h0 : pg_isX3 Λ)
    (b0 : vp_in ((v1 * 4) + (v2 >>> ((6 : Int32) &&& 31))) 256)
    (k0 : ∀ y1, y1 = ((((M.2.1 159 ((v1 * 4) + (v2 >>> ((6 : Int32) &&& 31))).toNatClampNeg).toUInt64 >>> ((v2 &&& 63).toInt64.toUInt64 &&& Int64.toUInt64 63)).toInt64) &&& 1) → ((lg_cmp y1 0) = 0) → P (some (.int 0)) M)
    (k1 : ∀ y1, y1 = ((((M.2.1 159 ((v1 * 4) + (v2 >>> ((6 : Int32) &&& 31))).toNatClampNeg).toUInt64 >>> ((v2 &&& 63).toInt64.toUInt64 &&& Int64.toUInt64 63)).toInt64) &&& 1) → (¬ (lg_cmp y1 0) = 0) → P (some (.int 1)) M) :
    pg_At S Λ YX3_holdsBy d 0 [(0, .ref 153), (1, .int v1), (2, .int v2)] [] M P := by
  refine pg_aload_n (pc := 0) (i := 0) (j := 0) (x := 153) dX3_holdsBy_0 rfl rfl ?_
  refine gfX3_28 (pc := 1) rfl h0 dX3_holdsBy_1 ?_
  refine pg_iload_n (pc := 4) (i := 1) (j := 1) (x := v1) dX3_holdsBy_4 rfl rfl ?_
  refine pg_iconst (pc := 5) (v := 4) dX3_holdsBy_5 (by decide) ?_
  refine pg_imul (pc := 6) dX3_holdsBy_6 ?_
  refine pg_iload_n (pc := 7) (i := 2) (j := 2) (x := v2) dX3_holdsBy_7 rfl rfl ?_
  refine pg_bipush (pc := 8) (v := 6) dX3_holdsBy_8 (by decide) ?_
  refine pg_ishr (pc := 10) dX3_holdsBy_10 ?_
  refine pg_iadd (pc := 11) dX3_holdsBy_11 ?_
  refine pg_lald (pc := 12) h0.2.2.2.2.2.2.1 b0 dX3_holdsBy_12 ?_
  refine pg_iload_n (pc := 13) (i := 2) (j := 2) (x := v2) dX3_holdsBy_13 rfl rfl ?_
  refine pg_bipush (pc := 14) (v := 63) dX3_holdsBy_14 (by decide) ?_
  refine pg_iand (pc := 16) dX3_holdsBy_16 ?_
  refine pg_lushr (pc := 17) dX3_holdsBy_17 rfl ?_
  refine pg_lconst (pc := 18) (v := 1) dX3_holdsBy_18 (by decide) ?_
  refine pg_land (pc := 19) dX3_holdsBy_19 ?_
  refine pg_topj (fun y1 u1 => ?_)
  refine pg_lconst (pc := 20) (v := 0) dX3_holdsBy_20 (by decide) ?_
  refine pg_lcmp (pc := 21) dX3_holdsBy_21 ?_
  refine pg_if_eq (pc := 22) (tgt := 29) dX3_holdsBy_22 (by decide) (fun c0 => ?_) (fun c0 => ?_)
  · skip
    refine pg_iconst (pc := 29) (v := 0) dX3_holdsBy_29 (by decide) ?_
    exact pg_zret (pc := 30) rfl rfl dX3_holdsBy_30 (k0 y1 u1 c0)
  · skip
    refine pg_iconst (pc := 25) (v := 1) dX3_holdsBy_25 (by decide) ?_
    refine pg_goto (pc := 26) (tgt := 30) dX3_holdsBy_26 (by decide) ?_
    exact pg_zret (pc := 30) rfl rfl dX3_holdsBy_30 (k1 y1 u1 c0)
theorem oX3_holdsBy {d : Nat} {v1 : Int32} {v2 : Int32} (h : pg_At S Λ YX3_holdsBy d 0 [(0, .ref 153), (1, .int v1), (2, .int v2)] [] M P) : pg_Ev S Λ YX3_holdsBy d [.ref 153, .int v1, .int v2] M P := pg_Ev.of (by decide) (by first | decide | exact Nat.le_of_ble_eq_true rfl) h
theorem sX3_layRow_0 {v1 : Nat} 
    (k0 : pg_At S Λ YX3_layRow (d + 1) 7 [(0, .ref 153), (1, .ref v1), (2, .int 0), (3, .int 0), (4, .int 0)] [] M P) :
    pg_At S Λ YX3_layRow (d + 1) 0 [(0, .ref 153), (1, .ref v1)] [] M P := by
  refine pg_iconst (pc := 0) (v := 0) dX3_layRow_0 (by decide) ?_
  refine pg_istore_n (pc := 1) (i := 2) (ls' := [(2, .int 0), (0, .ref 153), (1, .ref v1)]) dX3_layRow_1 rfl (by decide) rfl ?_
  refine pg_iconst (pc := 2) (v := 0) dX3_layRow_2 (by decide) ?_
  refine pg_istore_n (pc := 3) (i := 3) (ls' := [(3, .int 0), (2, .int 0), (0, .ref 153), (1, .ref v1)]) dX3_layRow_3 rfl (by decide) rfl ?_
  refine pg_iconst (pc := 4) (v := 0) dX3_layRow_4 (by decide) ?_
  refine pg_istore (pc := 5) (i := 4) (ls' := [(4, .int 0), (3, .int 0), (2, .int 0), (0, .ref 153), (1, .ref v1)]) dX3_layRow_5 (by decide) rfl ?_
  refine pg_drop (ks := [3, 4, 2, 1, 0]) (ls' := [(0, .ref 153), (1, .ref v1), (2, .int 0), (3, .int 0), (4, .int 0)]) rfl ?_
  exact k0
theorem sX3_layRow_7 {v1 : Nat} {v2 : Int32} {v3 : Int32} {v4 : Int32} {Q0 : Int32 → pg_M → Prop}
    (h0 : pg_isX5 Λ v1)
    (h1 : pg_isX3 Λ)
    (k0 : ((M.1 v1 10) ≤ v4) → P none M)
    (e0 : (¬ (M.1 v1 10) ≤ v4) → pg_Ev S Λ YX3_firstChoice d [.ref 153, .ref v1, .int (v2 ||| ((1 : Int32) <<< (v4 &&& 31))), .int v4, .int v3] M (fun r M' => ∃ x, r = some (.int x) ∧ Q0 x M'))
    (b0 : (¬ (M.1 v1 10) ≤ v4) → ∀ x1 M1, Q0 x1 M1 → vp_in v4 6)
    (k1 : (¬ (M.1 v1 10) ≤ v4) → ∀ x1 M1, Q0 x1 M1 → (x1 = 0) → pg_At S Λ YX3_layRow (d + 1) 7 [(0, .ref 153), (1, .ref v1), (2, .int v2), (3, .int v3), (4, .int (v4 + 1))] [] (pg_si M1 160 v4.toNatClampNeg x1) P)
    (k2 : (¬ (M.1 v1 10) ≤ v4) → ∀ x1 M1, Q0 x1 M1 → (¬ x1 = 0) → pg_At S Λ YX3_layRow (d + 1) 7 [(0, .ref 153), (1, .ref v1), (2, .int (v2 ||| ((1 : Int32) <<< (v4 &&& 31)))), (3, .int (v3 ||| x1)), (4, .int (v4 + 1))] [] (pg_si M1 160 v4.toNatClampNeg x1) P) :
    pg_At S Λ YX3_layRow (d + 1) 7 [(0, .ref 153), (1, .ref v1), (2, .int v2), (3, .int v3), (4, .int v4)] [] M P := by
  refine pg_iload (pc := 7) (i := 4) (j := 4) (x := v4) dX3_layRow_7 rfl ?_
  refine pg_aload_n (pc := 9) (i := 1) (j := 1) (x := v1) dX3_layRow_9 rfl rfl ?_
  refine gfX3_35 (pc := 10) rfl h0 dX3_layRow_10 ?_
  refine pg_icmp_ge (pc := 13) (tgt := 64) dX3_layRow_13 (by decide) (fun c0 => ?_) (fun c0 => ?_)
  · skip
    exact pg_vret (pc := 64) rfl dX3_layRow_64 (k0 c0)
  · skip
    refine pg_iload_n (pc := 16) (i := 2) (j := 2) (x := v2) dX3_layRow_16 rfl rfl ?_
    refine pg_iconst (pc := 17) (v := 1) dX3_layRow_17 (by decide) ?_
    refine pg_iload (pc := 18) (i := 4) (j := 4) (x := v4) dX3_layRow_18 rfl ?_
    refine pg_ishl (pc := 20) dX3_layRow_20 ?_
    refine pg_ior (pc := 21) dX3_layRow_21 ?_
    refine pg_istore (pc := 22) (i := 5) (ls' := [(5, .int (v2 ||| ((1 : Int32) <<< (v4 &&& 31)))), (0, .ref 153), (1, .ref v1), (2, .int v2), (3, .int v3), (4, .int v4)]) dX3_layRow_22 (by decide) rfl ?_
    refine pg_aload_n (pc := 24) (i := 0) (j := 1) (x := 153) dX3_layRow_24 rfl rfl ?_
    refine pg_aload_n (pc := 25) (i := 1) (j := 2) (x := v1) dX3_layRow_25 rfl rfl ?_
    refine pg_iload (pc := 26) (i := 5) (j := 0) (x := (v2 ||| ((1 : Int32) <<< (v4 &&& 31)))) dX3_layRow_26 rfl ?_
    refine pg_iload (pc := 28) (i := 4) (j := 5) (x := v4) dX3_layRow_28 rfl ?_
    refine pg_iload_n (pc := 30) (i := 3) (j := 4) (x := v3) dX3_layRow_30 rfl rfl ?_
    refine pg_callV (pc := 31) (As := [.ref v1, .int (v2 ||| ((1 : Int32) <<< (v4 &&& 31))), .int v4, .int v3]) (st := []) okX3_firstChoice lkX3_134 rfl h1.1 rfl (Nat.le_refl _) (Nat.le_of_ble_eq_true rfl) (e0 c0) dX3_layRow_31 (fun r1 M1 w1 => ?_)
    obtain ⟨x1, rfl, w1⟩ := w1
    refine pg_istore (pc := 34) (i := 6) (ls' := [(6, .int x1), (5, .int (v2 ||| ((1 : Int32) <<< (v4 &&& 31)))), (0, .ref 153), (1, .ref v1), (2, .int v2), (3, .int v3), (4, .int v4)]) dX3_layRow_34 (by decide) rfl ?_
    refine pg_aload_n (pc := 36) (i := 0) (j := 2) (x := 153) dX3_layRow_36 rfl rfl ?_
    refine gfX3_32 (pc := 37) rfl h1 dX3_layRow_37 ?_
    refine pg_iload (pc := 40) (i := 4) (j := 6) (x := v4) dX3_layRow_40 rfl ?_
    refine pg_iload (pc := 42) (i := 6) (j := 0) (x := x1) dX3_layRow_42 rfl ?_
    refine pg_iast (pc := 44) h1.2.2.2.2.2.2.2 (b0 c0 x1 M1 w1) dX3_layRow_44 ?_
    refine pg_iload (pc := 45) (i := 6) (j := 0) (x := x1) dX3_layRow_45 rfl ?_
    refine pg_if_eq (pc := 47) (tgt := 58) dX3_layRow_47 (by decide) (fun c1 => ?_) (fun c1 => ?_)
    · skip
      refine pg_iinc (pc := 58) (i := 4) (j := 6) (x := v4) (v := v4 + 1) (ls' := [(4, .int (v4 + 1)), (6, .int x1), (5, .int (v2 ||| ((1 : Int32) <<< (v4 &&& 31)))), (0, .ref 153), (1, .ref v1), (2, .int v2), (3, .int v3)]) dX3_layRow_58 rfl rfl (by decide) rfl ?_
      refine pg_goto (pc := 61) (tgt := 7) dX3_layRow_61 (by decide) ?_
      refine pg_drop (ks := [3, 4, 5, 6, 0]) (ls' := [(0, .ref 153), (1, .ref v1), (2, .int v2), (3, .int v3), (4, .int (v4 + 1))]) rfl ?_
      exact k1 c0 x1 M1 w1 c1
    · skip
      refine pg_iload (pc := 50) (i := 5) (j := 1) (x := (v2 ||| ((1 : Int32) <<< (v4 &&& 31)))) dX3_layRow_50 rfl ?_
      refine pg_istore_n (pc := 52) (i := 2) (ls' := [(2, .int (v2 ||| ((1 : Int32) <<< (v4 &&& 31)))), (6, .int x1), (5, .int (v2 ||| ((1 : Int32) <<< (v4 &&& 31)))), (0, .ref 153), (1, .ref v1), (3, .int v3), (4, .int v4)]) dX3_layRow_52 rfl (by decide) rfl ?_
      refine pg_iload_n (pc := 53) (i := 3) (j := 5) (x := v3) dX3_layRow_53 rfl rfl ?_
      refine pg_iload (pc := 54) (i := 6) (j := 1) (x := x1) dX3_layRow_54 rfl ?_
      refine pg_ior (pc := 56) dX3_layRow_56 ?_
      refine pg_istore_n (pc := 57) (i := 3) (ls' := [(3, .int (v3 ||| x1)), (2, .int (v2 ||| ((1 : Int32) <<< (v4 &&& 31)))), (6, .int x1), (5, .int (v2 ||| ((1 : Int32) <<< (v4 &&& 31)))), (0, .ref 153), (1, .ref v1), (4, .int v4)]) dX3_layRow_57 rfl (by decide) rfl ?_
      refine pg_iinc (pc := 58) (i := 4) (j := 6) (x := v4) (v := v4 + 1) (ls' := [(4, .int (v4 + 1)), (3, .int (v3 ||| x1)), (2, .int (v2 ||| ((1 : Int32) <<< (v4 &&& 31)))), (6, .int x1), (5, .int (v2 ||| ((1 : Int32) <<< (v4 &&& 31)))), (0, .ref 153), (1, .ref v1)]) dX3_layRow_58 rfl rfl (by decide) rfl ?_
      refine pg_goto (pc := 61) (tgt := 7) dX3_layRow_61 (by decide) ?_
      refine pg_drop (ks := [5, 6, 2, 1, 0]) (ls' := [(0, .ref 153), (1, .ref v1), (2, .int (v2 ||| ((1 : Int32) <<< (v4 &&& 31)))), (3, .int (v3 ||| x1)), (4, .int (v4 + 1))]) rfl ?_
      exact k2 c0 x1 M1 w1 c1
theorem oX3_layRow {d : Nat} {v1 : Nat} (h : pg_At S Λ YX3_layRow d 0 [(0, .ref 153), (1, .ref v1)] [] M P) : pg_Ev S Λ YX3_layRow d [.ref 153, .ref v1] M P := pg_Ev.of (by decide) (by first | decide | exact Nat.le_of_ble_eq_true rfl) h
theorem sX3_firstChoice_0 {v1 : Nat} {v2 : Int32} {v3 : Int32} {v4 : Int32} 
    (k0 : pg_At S Λ YX3_firstChoice (d + 1) 10 [(0, .ref 153), (1, .ref v1), (2, .int v2), (3, .int v3), (4, .int v4), (5, .int (v3 * 70)), (6, .int (v3 * 70))] [] M P) :
    pg_At S Λ YX3_firstChoice (d + 1) 0 [(0, .ref 153), (1, .ref v1), (2, .int v2), (3, .int v3), (4, .int v4)] [] M P := by
  refine pg_iload_n (pc := 0) (i := 3) (j := 3) (x := v3) dX3_firstChoice_0 rfl rfl ?_
  refine pg_bipush (pc := 1) (v := 70) dX3_firstChoice_1 (by decide) ?_
  refine pg_imul (pc := 3) dX3_firstChoice_3 ?_
  refine pg_istore (pc := 4) (i := 5) (ls' := [(5, .int (v3 * 70)), (0, .ref 153), (1, .ref v1), (2, .int v2), (3, .int v3), (4, .int v4)]) dX3_firstChoice_4 (by decide) rfl ?_
  refine pg_iload (pc := 6) (i := 5) (j := 0) (x := (v3 * 70)) dX3_firstChoice_6 rfl ?_
  refine pg_istore (pc := 8) (i := 6) (ls' := [(6, .int (v3 * 70)), (5, .int (v3 * 70)), (0, .ref 153), (1, .ref v1), (2, .int v2), (3, .int v3), (4, .int v4)]) dX3_firstChoice_8 (by decide) rfl ?_
  refine pg_drop (ks := [2, 3, 4, 5, 6, 1, 0]) (ls' := [(0, .ref 153), (1, .ref v1), (2, .int v2), (3, .int v3), (4, .int v4), (5, .int (v3 * 70)), (6, .int (v3 * 70))]) rfl ?_
  exact k0
theorem sX3_firstChoice_10 {v1 : Nat} {v2 : Int32} {v3 : Int32} {v4 : Int32} {v5 : Int32} {v6 : Int32} {Q0 : Int32 → pg_M → Prop}
    (h0 : pg_isX3 Λ)
    (b0 : vp_in v3 6)
    (k0 : ((v5 + (M.1 155 v3.toNatClampNeg)) ≤ v6) → P (some (.int 0)) M)
    (b1 : (¬ (v5 + (M.1 155 v3.toNatClampNeg)) ≤ v6) → vp_in v6 420)
    (k1 : (¬ (v5 + (M.1 155 v3.toNatClampNeg)) ≤ v6) → (¬ ((M.1 154 v6.toNatClampNeg) &&& v4) = 0) → pg_At S Λ YX3_firstChoice (d + 1) 10 [(0, .ref 153), (1, .ref v1), (2, .int v2), (3, .int v3), (4, .int v4), (5, .int v5), (6, .int (v6 + 1))] [] M P)
    (e0 : (¬ (v5 + (M.1 155 v3.toNatClampNeg)) ≤ v6) → (((M.1 154 v6.toNatClampNeg) &&& v4) = 0) → pg_Ev S Λ YX3_canEnd d [.ref 153, .ref v1, .int v2, .int (v3 + 1), .int (v4 ||| (M.1 154 v6.toNatClampNeg))] M (fun r M' => ∃ x, r = some (.int x) ∧ Q0 x M'))
    (k2 : (¬ (v5 + (M.1 155 v3.toNatClampNeg)) ≤ v6) → (((M.1 154 v6.toNatClampNeg) &&& v4) = 0) → ∀ x1 M1, Q0 x1 M1 → (x1 = 0) → pg_At S Λ YX3_firstChoice (d + 1) 10 [(0, .ref 153), (1, .ref v1), (2, .int v2), (3, .int v3), (4, .int v4), (5, .int v5), (6, .int (v6 + 1))] [] M1 P)
    (k3 : (¬ (v5 + (M.1 155 v3.toNatClampNeg)) ≤ v6) → (((M.1 154 v6.toNatClampNeg) &&& v4) = 0) → ∀ x1 M1, Q0 x1 M1 → (¬ x1 = 0) → P (some (.int (M1.1 154 v6.toNatClampNeg))) M1) :
    pg_At S Λ YX3_firstChoice (d + 1) 10 [(0, .ref 153), (1, .ref v1), (2, .int v2), (3, .int v3), (4, .int v4), (5, .int v5), (6, .int v6)] [] M P := by
  refine pg_iload (pc := 10) (i := 6) (j := 6) (x := v6) dX3_firstChoice_10 rfl ?_
  refine pg_iload (pc := 12) (i := 5) (j := 5) (x := v5) dX3_firstChoice_12 rfl ?_
  refine pg_aload_n (pc := 14) (i := 0) (j := 0) (x := 153) dX3_firstChoice_14 rfl rfl ?_
  refine gfX3_15 (pc := 15) rfl h0 dX3_firstChoice_15 ?_
  refine pg_iload_n (pc := 18) (i := 3) (j := 3) (x := v3) dX3_firstChoice_18 rfl rfl ?_
  refine pg_iald (pc := 19) h0.2.2.1 b0 dX3_firstChoice_19 ?_
  refine pg_iadd (pc := 20) dX3_firstChoice_20 ?_
  refine pg_icmp_ge (pc := 21) (tgt := 73) dX3_firstChoice_21 (by decide) (fun c0 => ?_) (fun c0 => ?_)
  · skip
    refine pg_iconst (pc := 73) (v := 0) dX3_firstChoice_73 (by decide) ?_
    exact pg_iret (pc := 74) rfl dX3_firstChoice_74 (k0 c0)
  · skip
    refine pg_aload_n (pc := 24) (i := 0) (j := 0) (x := 153) dX3_firstChoice_24 rfl rfl ?_
    refine gfX3_11 (pc := 25) rfl h0 dX3_firstChoice_25 ?_
    refine pg_iload (pc := 28) (i := 6) (j := 6) (x := v6) dX3_firstChoice_28 rfl ?_
    refine pg_iald (pc := 30) h0.2.1 (b1 c0) dX3_firstChoice_30 ?_
    refine pg_iload (pc := 31) (i := 4) (j := 4) (x := v4) dX3_firstChoice_31 rfl ?_
    refine pg_iand (pc := 33) dX3_firstChoice_33 ?_
    refine pg_if_ne (pc := 34) (tgt := 67) dX3_firstChoice_34 (by decide) (fun c1 => ?_) (fun c1 => ?_)
    · skip
      refine pg_iinc (pc := 67) (i := 6) (j := 6) (x := v6) (v := v6 + 1) (ls' := [(6, .int (v6 + 1)), (0, .ref 153), (1, .ref v1), (2, .int v2), (3, .int v3), (4, .int v4), (5, .int v5)]) dX3_firstChoice_67 rfl rfl (by decide) rfl ?_
      refine pg_goto (pc := 70) (tgt := 10) dX3_firstChoice_70 (by decide) ?_
      refine pg_drop (ks := [1, 2, 3, 4, 5, 6, 0]) (ls' := [(0, .ref 153), (1, .ref v1), (2, .int v2), (3, .int v3), (4, .int v4), (5, .int v5), (6, .int (v6 + 1))]) rfl ?_
      exact k1 c0 c1
    · skip
      refine pg_aload_n (pc := 37) (i := 0) (j := 0) (x := 153) dX3_firstChoice_37 rfl rfl ?_
      refine pg_aload_n (pc := 38) (i := 1) (j := 1) (x := v1) dX3_firstChoice_38 rfl rfl ?_
      refine pg_iload_n (pc := 39) (i := 2) (j := 2) (x := v2) dX3_firstChoice_39 rfl rfl ?_
      refine pg_iload_n (pc := 40) (i := 3) (j := 3) (x := v3) dX3_firstChoice_40 rfl rfl ?_
      refine pg_iconst (pc := 41) (v := 1) dX3_firstChoice_41 (by decide) ?_
      refine pg_iadd (pc := 42) dX3_firstChoice_42 ?_
      refine pg_iload (pc := 43) (i := 4) (j := 4) (x := v4) dX3_firstChoice_43 rfl ?_
      refine pg_aload_n (pc := 45) (i := 0) (j := 0) (x := 153) dX3_firstChoice_45 rfl rfl ?_
      refine gfX3_11 (pc := 46) rfl h0 dX3_firstChoice_46 ?_
      refine pg_iload (pc := 49) (i := 6) (j := 6) (x := v6) dX3_firstChoice_49 rfl ?_
      refine pg_iald (pc := 51) h0.2.1 (b1 c0) dX3_firstChoice_51 ?_
      refine pg_ior (pc := 52) dX3_firstChoice_52 ?_
      refine pg_callV (pc := 53) (As := [.ref v1, .int v2, .int (v3 + 1), .int (v4 ||| (M.1 154 v6.toNatClampNeg))]) (st := []) okX3_canEnd lkX3_138 rfl h0.1 rfl (Nat.le_refl _) (Nat.le_of_ble_eq_true rfl) (e0 c0 c1) dX3_firstChoice_53 (fun r1 M1 w1 => ?_)
      obtain ⟨x1, rfl, w1⟩ := w1
      refine pg_if_eq (pc := 56) (tgt := 67) dX3_firstChoice_56 (by decide) (fun c2 => ?_) (fun c2 => ?_)
      · skip
        refine pg_iinc (pc := 67) (i := 6) (j := 6) (x := v6) (v := v6 + 1) (ls' := [(6, .int (v6 + 1)), (0, .ref 153), (1, .ref v1), (2, .int v2), (3, .int v3), (4, .int v4), (5, .int v5)]) dX3_firstChoice_67 rfl rfl (by decide) rfl ?_
        refine pg_goto (pc := 70) (tgt := 10) dX3_firstChoice_70 (by decide) ?_
        refine pg_drop (ks := [1, 2, 3, 4, 5, 6, 0]) (ls' := [(0, .ref 153), (1, .ref v1), (2, .int v2), (3, .int v3), (4, .int v4), (5, .int v5), (6, .int (v6 + 1))]) rfl ?_
        exact k2 c0 c1 x1 M1 w1 c2
      · skip
        refine pg_aload_n (pc := 59) (i := 0) (j := 0) (x := 153) dX3_firstChoice_59 rfl rfl ?_
        refine gfX3_11 (pc := 60) rfl h0 dX3_firstChoice_60 ?_
        refine pg_iload (pc := 63) (i := 6) (j := 6) (x := v6) dX3_firstChoice_63 rfl ?_
        refine pg_iald (pc := 65) h0.2.1 (b1 c0) dX3_firstChoice_65 ?_
        exact pg_iret (pc := 66) rfl dX3_firstChoice_66 (k3 c0 c1 x1 M1 w1 c2)
theorem oX3_firstChoice {d : Nat} {v1 : Nat} {v2 : Int32} {v3 : Int32} {v4 : Int32} (h : pg_At S Λ YX3_firstChoice d 0 [(0, .ref 153), (1, .ref v1), (2, .int v2), (3, .int v3), (4, .int v4)] [] M P) : pg_Ev S Λ YX3_firstChoice d [.ref 153, .ref v1, .int v2, .int v3, .int v4] M P := pg_Ev.of (by decide) (by first | decide | exact Nat.le_of_ble_eq_true rfl) h
theorem sX3_canEnd_0 {v1 : Nat} {v2 : Int32} {v3 : Int32} {v4 : Int32} 
    (k0 : pg_At S Λ YX3_canEnd (d + 1) 8 [(0, .ref 153), (1, .ref v1), (2, .int v2), (4, .int v4), (5, .int ((1 : Int32) <<< (v3 &&& 31))), (6, .int 0)] [] M P) :
    pg_At S Λ YX3_canEnd (d + 1) 0 [(0, .ref 153), (1, .ref v1), (2, .int v2), (3, .int v3), (4, .int v4)] [] M P := by
  refine pg_iconst (pc := 0) (v := 1) dX3_canEnd_0 (by decide) ?_
  refine pg_iload_n (pc := 1) (i := 3) (j := 3) (x := v3) dX3_canEnd_1 rfl rfl ?_
  refine pg_ishl (pc := 2) dX3_canEnd_2 ?_
  refine pg_istore (pc := 3) (i := 5) (ls' := [(5, .int ((1 : Int32) <<< (v3 &&& 31))), (0, .ref 153), (1, .ref v1), (2, .int v2), (3, .int v3), (4, .int v4)]) dX3_canEnd_3 (by decide) rfl ?_
  refine pg_iconst (pc := 5) (v := 0) dX3_canEnd_5 (by decide) ?_
  refine pg_istore (pc := 6) (i := 6) (ls' := [(6, .int 0), (5, .int ((1 : Int32) <<< (v3 &&& 31))), (0, .ref 153), (1, .ref v1), (2, .int v2), (3, .int v3), (4, .int v4)]) dX3_canEnd_6 (by decide) rfl ?_
  refine pg_drop (ks := [2, 3, 4, 6, 1, 0]) (ls' := [(0, .ref 153), (1, .ref v1), (2, .int v2), (4, .int v4), (5, .int ((1 : Int32) <<< (v3 &&& 31))), (6, .int 0)]) rfl ?_
  exact k0
theorem sX3_canEnd_8 {v1 : Nat} {v2 : Int32} {v4 : Int32} {v5 : Int32} {v6 : Int32} {Q0 : Int32 → pg_M → Prop}
    (h0 : pg_isX3 Λ)
    (h1 : pg_isX5 Λ v1)
    (k0 : ((M.1 153 7) ≤ v6) → P (some (.int 0)) M)
    (b0 : (¬ (M.1 153 7) ≤ v6) → vp_in (v2 ||| v6) 64)
    (k1 : (¬ (M.1 153 7) ≤ v6) → (¬ (M.1 157 (v2 ||| v6).toNatClampNeg) = (M.1 153 9)) → pg_At S Λ YX3_canEnd (d + 1) 8 [(0, .ref 153), (1, .ref v1), (2, .int v2), (4, .int v4), (5, .int v5), (6, .int (v6 + v5))] [] M P)
    (k2 : (¬ (M.1 153 7) ≤ v6) → ((M.1 157 (v2 ||| v6).toNatClampNeg) = (M.1 153 9)) → ((M.1 v1 13) < (M.1 156 (v2 ||| v6).toNatClampNeg)) → pg_At S Λ YX3_canEnd (d + 1) 8 [(0, .ref 153), (1, .ref v1), (2, .int v2), (4, .int v4), (5, .int v5), (6, .int (v6 + v5))] [] M P)
    (e0 : (¬ (M.1 153 7) ≤ v6) → ((M.1 157 (v2 ||| v6).toNatClampNeg) = (M.1 153 9)) → (¬ (M.1 v1 13) < (M.1 156 (v2 ||| v6).toNatClampNeg)) → pg_Ev S Λ YX3_holdsWithout d [.ref 153, .int v6, .int v4] M (fun r M' => ∃ x, r = some (.int x) ∧ Q0 x M'))
    (k3 : (¬ (M.1 153 7) ≤ v6) → ((M.1 157 (v2 ||| v6).toNatClampNeg) = (M.1 153 9)) → (¬ (M.1 v1 13) < (M.1 156 (v2 ||| v6).toNatClampNeg)) → ∀ x1 M1, Q0 x1 M1 → (x1 = 0) → pg_At S Λ YX3_canEnd (d + 1) 8 [(0, .ref 153), (1, .ref v1), (2, .int v2), (4, .int v4), (5, .int v5), (6, .int (v6 + v5))] [] M1 P)
    (k4 : (¬ (M.1 153 7) ≤ v6) → ((M.1 157 (v2 ||| v6).toNatClampNeg) = (M.1 153 9)) → (¬ (M.1 v1 13) < (M.1 156 (v2 ||| v6).toNatClampNeg)) → ∀ x1 M1, Q0 x1 M1 → (¬ x1 = 0) → P (some (.int 1)) M1) :
    pg_At S Λ YX3_canEnd (d + 1) 8 [(0, .ref 153), (1, .ref v1), (2, .int v2), (4, .int v4), (5, .int v5), (6, .int v6)] [] M P := by
  refine pg_iload (pc := 8) (i := 6) (j := 5) (x := v6) dX3_canEnd_8 rfl ?_
  refine pg_aload_n (pc := 10) (i := 0) (j := 0) (x := 153) dX3_canEnd_10 rfl rfl ?_
  refine gfX3_41 (pc := 11) rfl h0 dX3_canEnd_11 ?_
  refine pg_icmp_ge (pc := 14) (tgt := 74) dX3_canEnd_14 (by decide) (fun c0 => ?_) (fun c0 => ?_)
  · skip
    refine pg_iconst (pc := 74) (v := 0) dX3_canEnd_74 (by decide) ?_
    exact pg_zret (pc := 75) rfl rfl dX3_canEnd_75 (k0 c0)
  · skip
    refine pg_iload_n (pc := 17) (i := 2) (j := 2) (x := v2) dX3_canEnd_17 rfl rfl ?_
    refine pg_iload (pc := 18) (i := 6) (j := 5) (x := v6) dX3_canEnd_18 rfl ?_
    refine pg_ior (pc := 20) dX3_canEnd_20 ?_
    refine pg_istore (pc := 21) (i := 7) (ls' := [(7, .int (v2 ||| v6)), (0, .ref 153), (1, .ref v1), (2, .int v2), (4, .int v4), (5, .int v5), (6, .int v6)]) dX3_canEnd_21 (by decide) rfl ?_
    refine pg_aload_n (pc := 23) (i := 0) (j := 1) (x := 153) dX3_canEnd_23 rfl rfl ?_
    refine gfX3_21 (pc := 24) rfl h0 dX3_canEnd_24 ?_
    refine pg_iload (pc := 27) (i := 7) (j := 0) (x := (v2 ||| v6)) dX3_canEnd_27 rfl ?_
    refine pg_iald (pc := 29) h0.2.2.2.2.1 (b0 c0) dX3_canEnd_29 ?_
    refine pg_aload_n (pc := 30) (i := 0) (j := 1) (x := 153) dX3_canEnd_30 rfl rfl ?_
    refine gfX3_62 (pc := 31) rfl h0 dX3_canEnd_31 ?_
    refine pg_icmp_ne (pc := 34) (tgt := 64) dX3_canEnd_34 (by decide) (fun c1 => ?_) (fun c1 => ?_)
    · skip
      refine pg_iload (pc := 64) (i := 6) (j := 6) (x := v6) dX3_canEnd_64 rfl ?_
      refine pg_iload (pc := 66) (i := 5) (j := 5) (x := v5) dX3_canEnd_66 rfl ?_
      refine pg_iadd (pc := 68) dX3_canEnd_68 ?_
      refine pg_istore (pc := 69) (i := 6) (ls' := [(6, .int (v6 + v5)), (7, .int (v2 ||| v6)), (0, .ref 153), (1, .ref v1), (2, .int v2), (4, .int v4), (5, .int v5)]) dX3_canEnd_69 (by decide) rfl ?_
      refine pg_goto (pc := 71) (tgt := 8) dX3_canEnd_71 (by decide) ?_
      refine pg_drop (ks := [2, 3, 4, 5, 6, 0]) (ls' := [(0, .ref 153), (1, .ref v1), (2, .int v2), (4, .int v4), (5, .int v5), (6, .int (v6 + v5))]) rfl ?_
      exact k1 c0 c1
    · skip
      refine pg_aload_n (pc := 37) (i := 0) (j := 1) (x := 153) dX3_canEnd_37 rfl rfl ?_
      refine gfX3_18 (pc := 38) rfl h0 dX3_canEnd_38 ?_
      refine pg_iload (pc := 41) (i := 7) (j := 0) (x := (v2 ||| v6)) dX3_canEnd_41 rfl ?_
      refine pg_iald (pc := 43) h0.2.2.2.1 (b0 c0) dX3_canEnd_43 ?_
      refine pg_aload_n (pc := 44) (i := 1) (j := 2) (x := v1) dX3_canEnd_44 rfl rfl ?_
      refine gfX3_123 (pc := 45) rfl h1 dX3_canEnd_45 ?_
      refine pg_icmp_gt (pc := 48) (tgt := 64) dX3_canEnd_48 (by decide) (fun c2 => ?_) (fun c2 => ?_)
      · skip
        refine pg_iload (pc := 64) (i := 6) (j := 6) (x := v6) dX3_canEnd_64 rfl ?_
        refine pg_iload (pc := 66) (i := 5) (j := 5) (x := v5) dX3_canEnd_66 rfl ?_
        refine pg_iadd (pc := 68) dX3_canEnd_68 ?_
        refine pg_istore (pc := 69) (i := 6) (ls' := [(6, .int (v6 + v5)), (7, .int (v2 ||| v6)), (0, .ref 153), (1, .ref v1), (2, .int v2), (4, .int v4), (5, .int v5)]) dX3_canEnd_69 (by decide) rfl ?_
        refine pg_goto (pc := 71) (tgt := 8) dX3_canEnd_71 (by decide) ?_
        refine pg_drop (ks := [2, 3, 4, 5, 6, 0]) (ls' := [(0, .ref 153), (1, .ref v1), (2, .int v2), (4, .int v4), (5, .int v5), (6, .int (v6 + v5))]) rfl ?_
        exact k2 c0 c1 c2
      · skip
        refine pg_aload_n (pc := 51) (i := 0) (j := 1) (x := 153) dX3_canEnd_51 rfl rfl ?_
        refine pg_iload (pc := 52) (i := 6) (j := 6) (x := v6) dX3_canEnd_52 rfl ?_
        refine pg_iload (pc := 54) (i := 4) (j := 4) (x := v4) dX3_canEnd_54 rfl ?_
        refine pg_callV (pc := 56) (As := [.int v6, .int v4]) (st := []) okX3_holdsWithout lkX3_142 rfl h0.1 rfl (Nat.le_refl _) (Nat.le_of_ble_eq_true rfl) (e0 c0 c1 c2) dX3_canEnd_56 (fun r1 M1 w1 => ?_)
        obtain ⟨x1, rfl, w1⟩ := w1
        refine pg_if_eq (pc := 59) (tgt := 64) dX3_canEnd_59 (by decide) (fun c3 => ?_) (fun c3 => ?_)
        · skip
          refine pg_iload (pc := 64) (i := 6) (j := 6) (x := v6) dX3_canEnd_64 rfl ?_
          refine pg_iload (pc := 66) (i := 5) (j := 5) (x := v5) dX3_canEnd_66 rfl ?_
          refine pg_iadd (pc := 68) dX3_canEnd_68 ?_
          refine pg_istore (pc := 69) (i := 6) (ls' := [(6, .int (v6 + v5)), (7, .int (v2 ||| v6)), (0, .ref 153), (1, .ref v1), (2, .int v2), (4, .int v4), (5, .int v5)]) dX3_canEnd_69 (by decide) rfl ?_
          refine pg_goto (pc := 71) (tgt := 8) dX3_canEnd_71 (by decide) ?_
          refine pg_drop (ks := [2, 3, 4, 5, 6, 0]) (ls' := [(0, .ref 153), (1, .ref v1), (2, .int v2), (4, .int v4), (5, .int v5), (6, .int (v6 + v5))]) rfl ?_
          exact k3 c0 c1 c2 x1 M1 w1 c3
        · skip
          refine pg_iconst (pc := 62) (v := 1) dX3_canEnd_62 (by decide) ?_
          exact pg_zret (pc := 63) rfl rfl dX3_canEnd_63 (k4 c0 c1 c2 x1 M1 w1 c3)
theorem oX3_canEnd {d : Nat} {v1 : Nat} {v2 : Int32} {v3 : Int32} {v4 : Int32} (h : pg_At S Λ YX3_canEnd d 0 [(0, .ref 153), (1, .ref v1), (2, .int v2), (3, .int v3), (4, .int v4)] [] M P) : pg_Ev S Λ YX3_canEnd d [.ref 153, .ref v1, .int v2, .int v3, .int v4] M P := pg_Ev.of (by decide) (by first | decide | exact Nat.le_of_ble_eq_true rfl) h
theorem sX3_holdsWithout_0 {v1 : Int32} {v2 : Int32} 
    (k0 : pg_At S Λ YX3_holdsWithout (d + 1) 2 [(0, .ref 153), (1, .int v1), (2, .int v2), (3, .int 0)] [] M P) :
    pg_At S Λ YX3_holdsWithout (d + 1) 0 [(0, .ref 153), (1, .int v1), (2, .int v2)] [] M P := by
  refine pg_iconst (pc := 0) (v := 0) dX3_holdsWithout_0 (by decide) ?_
  refine pg_istore_n (pc := 1) (i := 3) (ls' := [(3, .int 0), (0, .ref 153), (1, .int v1), (2, .int v2)]) dX3_holdsWithout_1 rfl (by decide) rfl ?_
  refine pg_drop (ks := [1, 2, 3, 0]) (ls' := [(0, .ref 153), (1, .int v1), (2, .int v2), (3, .int 0)]) rfl ?_
  exact k0
theorem sX3_holdsWithout_2 {v1 : Int32} {v2 : Int32} {v3 : Int32} {Q0 : Int32 → pg_M → Prop}
    (h0 : pg_isX3 Λ)
    (k0 : ((M.1 153 8) ≤ v3) → P (some (.int 0)) M)
    (k1 : (¬ (M.1 153 8) ≤ v3) → (¬ (v3 &&& v2) = 0) → pg_At S Λ YX3_holdsWithout (d + 1) 2 [(0, .ref 153), (1, .int v1), (2, .int v2), (3, .int (v3 + 1))] [] M P)
    (e0 : (¬ (M.1 153 8) ≤ v3) → ((v3 &&& v2) = 0) → pg_Ev S Λ YX3_holdsBy d [.ref 153, .int v1, .int v3] M (fun r M' => ∃ x, r = some (.int x) ∧ Q0 x M'))
    (k2 : (¬ (M.1 153 8) ≤ v3) → ((v3 &&& v2) = 0) → ∀ x1 M1, Q0 x1 M1 → (x1 = 0) → pg_At S Λ YX3_holdsWithout (d + 1) 2 [(0, .ref 153), (1, .int v1), (2, .int v2), (3, .int (v3 + 1))] [] M1 P)
    (k3 : (¬ (M.1 153 8) ≤ v3) → ((v3 &&& v2) = 0) → ∀ x1 M1, Q0 x1 M1 → (¬ x1 = 0) → P (some (.int 1)) M1) :
    pg_At S Λ YX3_holdsWithout (d + 1) 2 [(0, .ref 153), (1, .int v1), (2, .int v2), (3, .int v3)] [] M P := by
  refine pg_iload_n (pc := 2) (i := 3) (j := 3) (x := v3) dX3_holdsWithout_2 rfl rfl ?_
  refine pg_aload_n (pc := 3) (i := 0) (j := 0) (x := 153) dX3_holdsWithout_3 rfl rfl ?_
  refine gfX3_49 (pc := 4) rfl h0 dX3_holdsWithout_4 ?_
  refine pg_icmp_ge (pc := 7) (tgt := 33) dX3_holdsWithout_7 (by decide) (fun c0 => ?_) (fun c0 => ?_)
  · skip
    refine pg_iconst (pc := 33) (v := 0) dX3_holdsWithout_33 (by decide) ?_
    exact pg_zret (pc := 34) rfl rfl dX3_holdsWithout_34 (k0 c0)
  · skip
    refine pg_iload_n (pc := 10) (i := 3) (j := 3) (x := v3) dX3_holdsWithout_10 rfl rfl ?_
    refine pg_iload_n (pc := 11) (i := 2) (j := 2) (x := v2) dX3_holdsWithout_11 rfl rfl ?_
    refine pg_iand (pc := 12) dX3_holdsWithout_12 ?_
    refine pg_if_ne (pc := 13) (tgt := 27) dX3_holdsWithout_13 (by decide) (fun c1 => ?_) (fun c1 => ?_)
    · skip
      refine pg_iinc (pc := 27) (i := 3) (j := 3) (x := v3) (v := v3 + 1) (ls' := [(3, .int (v3 + 1)), (0, .ref 153), (1, .int v1), (2, .int v2)]) dX3_holdsWithout_27 rfl rfl (by decide) rfl ?_
      refine pg_goto (pc := 30) (tgt := 2) dX3_holdsWithout_30 (by decide) ?_
      refine pg_drop (ks := [1, 2, 3, 0]) (ls' := [(0, .ref 153), (1, .int v1), (2, .int v2), (3, .int (v3 + 1))]) rfl ?_
      exact k1 c0 c1
    · skip
      refine pg_aload_n (pc := 16) (i := 0) (j := 0) (x := 153) dX3_holdsWithout_16 rfl rfl ?_
      refine pg_iload_n (pc := 17) (i := 1) (j := 1) (x := v1) dX3_holdsWithout_17 rfl rfl ?_
      refine pg_iload_n (pc := 18) (i := 3) (j := 3) (x := v3) dX3_holdsWithout_18 rfl rfl ?_
      refine pg_callV (pc := 19) (As := [.int v1, .int v3]) (st := []) okX3_holdsBy lkX3_126 rfl h0.1 rfl (Nat.le_refl _) (Nat.le_of_ble_eq_true rfl) (e0 c0 c1) dX3_holdsWithout_19 (fun r1 M1 w1 => ?_)
      obtain ⟨x1, rfl, w1⟩ := w1
      refine pg_if_eq (pc := 22) (tgt := 27) dX3_holdsWithout_22 (by decide) (fun c2 => ?_) (fun c2 => ?_)
      · skip
        refine pg_iinc (pc := 27) (i := 3) (j := 3) (x := v3) (v := v3 + 1) (ls' := [(3, .int (v3 + 1)), (0, .ref 153), (1, .int v1), (2, .int v2)]) dX3_holdsWithout_27 rfl rfl (by decide) rfl ?_
        refine pg_goto (pc := 30) (tgt := 2) dX3_holdsWithout_30 (by decide) ?_
        refine pg_drop (ks := [1, 2, 3, 0]) (ls' := [(0, .ref 153), (1, .int v1), (2, .int v2), (3, .int (v3 + 1))]) rfl ?_
        exact k2 c0 c1 x1 M1 w1 c2
      · skip
        refine pg_iconst (pc := 25) (v := 1) dX3_holdsWithout_25 (by decide) ?_
        exact pg_zret (pc := 26) rfl rfl dX3_holdsWithout_26 (k3 c0 c1 x1 M1 w1 c2)
theorem oX3_holdsWithout {d : Nat} {v1 : Int32} {v2 : Int32} (h : pg_At S Λ YX3_holdsWithout d 0 [(0, .ref 153), (1, .int v1), (2, .int v2)] [] M P) : pg_Ev S Λ YX3_holdsWithout d [.ref 153, .int v1, .int v2] M P := pg_Ev.of (by decide) (by first | decide | exact Nat.le_of_ble_eq_true rfl) h
theorem sX4_plan_0 {v1 : Nat} {v2 : Nat} 
    (h0 : pg_isX4 Λ)
    (k0 : pg_At S Λ YX4_plan (d + 1) 7 [(0, .ref 164), (1, .ref v1), (2, .ref v2), (3, .int 0)] [] (pg_si M 164 4 0) P) :
    pg_At S Λ YX4_plan (d + 1) 0 [(0, .ref 164), (1, .ref v1), (2, .ref v2)] [] M P := by
  refine pg_aload_n (pc := 0) (i := 0) (j := 0) (x := 164) dX4_plan_0 rfl rfl ?_
  refine pg_iconst (pc := 1) (v := 0) dX4_plan_1 (by decide) ?_
  refine pfX4_24 (pc := 2) rfl h0 dX4_plan_2 ?_
  refine pg_iconst (pc := 5) (v := 0) dX4_plan_5 (by decide) ?_
  refine pg_istore_n (pc := 6) (i := 3) (ls' := [(3, .int 0), (0, .ref 164), (1, .ref v1), (2, .ref v2)]) dX4_plan_6 rfl (by decide) rfl ?_
  refine pg_drop (ks := [1, 2, 3, 0]) (ls' := [(0, .ref 164), (1, .ref v1), (2, .ref v2), (3, .int 0)]) rfl ?_
  exact k0
theorem sX4_plan_7 {v1 : Nat} {v2 : Nat} {v3 : Int32} 
    (h0 : pg_isX5 Λ v1)
    (h1 : pg_isX9 Λ v2)
    (h2 : pg_isX4 Λ)
    (k0 : ((M.1 v1 10) ≤ v3) → pg_At S Λ YX4_plan (d + 1) 61 [(0, .ref 164), (1, .ref v1), (2, .ref v2), (3, .int 0)] [] M P)
    (b0 : (¬ (M.1 v1 10) ≤ v3) → vp_in v3 6)
    (k1 : (¬ (M.1 v1 10) ≤ v3) → (¬ (M.1 (v2 + 3) v3.toNatClampNeg) = 0) → pg_At S Λ YX4_plan (d + 1) 7 [(0, .ref 164), (1, .ref v1), (2, .ref v2), (3, .int (v3 + 1))] [] M P)
    (k2 : (¬ (M.1 v1 10) ≤ v3) → ((M.1 (v2 + 3) v3.toNatClampNeg) = 0) → ((M.1 (v2 + 2) v3.toNatClampNeg) ≤ 0) → pg_At S Λ YX4_plan (d + 1) 7 [(0, .ref 164), (1, .ref v1), (2, .ref v2), (3, .int (v3 + 1))] [] M P)
    (b1 : (¬ (M.1 v1 10) ≤ v3) → ((M.1 (v2 + 3) v3.toNatClampNeg) = 0) → (¬ (M.1 (v2 + 2) v3.toNatClampNeg) ≤ 0) → vp_in (M.1 164 4) 6)
    (k3 : (¬ (M.1 v1 10) ≤ v3) → ((M.1 (v2 + 3) v3.toNatClampNeg) = 0) → (¬ (M.1 (v2 + 2) v3.toNatClampNeg) ≤ 0) → ∀ N1, N1 = pg_si (pg_si M 165 (M.1 164 4).toNatClampNeg v3) 164 4 (((pg_si M 165 (M.1 164 4).toNatClampNeg v3).1 164 4) + 1) → pg_At S Λ YX4_plan (d + 1) 7 [(0, .ref 164), (1, .ref v1), (2, .ref v2), (3, .int (v3 + 1))] [] N1 P) :
    pg_At S Λ YX4_plan (d + 1) 7 [(0, .ref 164), (1, .ref v1), (2, .ref v2), (3, .int v3)] [] M P := by
  refine pg_iload_n (pc := 7) (i := 3) (j := 3) (x := v3) dX4_plan_7 rfl rfl ?_
  refine pg_aload_n (pc := 8) (i := 1) (j := 1) (x := v1) dX4_plan_8 rfl rfl ?_
  refine gfX4_28 (pc := 9) rfl h0 dX4_plan_9 ?_
  refine pg_icmp_ge (pc := 12) (tgt := 59) dX4_plan_12 (by decide) (fun c0 => ?_) (fun c0 => ?_)
  · skip
    refine pg_iconst (pc := 59) (v := 0) dX4_plan_59 (by decide) ?_
    refine pg_istore_n (pc := 60) (i := 3) (ls' := [(3, .int 0), (0, .ref 164), (1, .ref v1), (2, .ref v2)]) dX4_plan_60 rfl (by decide) rfl ?_
    refine pg_drop (ks := [1, 2, 3, 0]) (ls' := [(0, .ref 164), (1, .ref v1), (2, .ref v2), (3, .int 0)]) rfl ?_
    exact k0 c0
  · skip
    refine pg_aload_n (pc := 15) (i := 2) (j := 2) (x := v2) dX4_plan_15 rfl rfl ?_
    refine gfX4_33 (pc := 16) rfl h1 dX4_plan_16 ?_
    refine pg_iload_n (pc := 19) (i := 3) (j := 3) (x := v3) dX4_plan_19 rfl rfl ?_
    refine pg_iald (pc := 20) h1.2.2.2.1 (b0 c0) dX4_plan_20 ?_
    refine pg_if_ne (pc := 21) (tgt := 53) dX4_plan_21 (by decide) (fun c1 => ?_) (fun c1 => ?_)
    · skip
      refine pg_iinc (pc := 53) (i := 3) (j := 3) (x := v3) (v := v3 + 1) (ls' := [(3, .int (v3 + 1)), (0, .ref 164), (1, .ref v1), (2, .ref v2)]) dX4_plan_53 rfl rfl (by decide) rfl ?_
      refine pg_goto (pc := 56) (tgt := 7) dX4_plan_56 (by decide) ?_
      refine pg_drop (ks := [1, 2, 3, 0]) (ls' := [(0, .ref 164), (1, .ref v1), (2, .ref v2), (3, .int (v3 + 1))]) rfl ?_
      exact k1 c0 c1
    · skip
      refine pg_aload_n (pc := 24) (i := 2) (j := 2) (x := v2) dX4_plan_24 rfl rfl ?_
      refine gfX4_38 (pc := 25) rfl h1 dX4_plan_25 ?_
      refine pg_iload_n (pc := 28) (i := 3) (j := 3) (x := v3) dX4_plan_28 rfl rfl ?_
      refine pg_iald (pc := 29) h1.2.2.1 (b0 c0) dX4_plan_29 ?_
      refine pg_if_le (pc := 30) (tgt := 53) dX4_plan_30 (by decide) (fun c2 => ?_) (fun c2 => ?_)
      · skip
        refine pg_iinc (pc := 53) (i := 3) (j := 3) (x := v3) (v := v3 + 1) (ls' := [(3, .int (v3 + 1)), (0, .ref 164), (1, .ref v1), (2, .ref v2)]) dX4_plan_53 rfl rfl (by decide) rfl ?_
        refine pg_goto (pc := 56) (tgt := 7) dX4_plan_56 (by decide) ?_
        refine pg_drop (ks := [1, 2, 3, 0]) (ls' := [(0, .ref 164), (1, .ref v1), (2, .ref v2), (3, .int (v3 + 1))]) rfl ?_
        exact k2 c0 c1 c2
      · skip
        refine pg_aload_n (pc := 33) (i := 0) (j := 0) (x := 164) dX4_plan_33 rfl rfl ?_
        refine gfX4_9 (pc := 34) rfl h2 dX4_plan_34 ?_
        refine pg_aload_n (pc := 37) (i := 0) (j := 0) (x := 164) dX4_plan_37 rfl rfl ?_
        refine gfX4_24 (pc := 38) rfl h2 dX4_plan_38 ?_
        refine pg_iload_n (pc := 41) (i := 3) (j := 3) (x := v3) dX4_plan_41 rfl rfl ?_
        refine pg_iast (pc := 42) h2.2.1 (b1 c0 c1 c2) dX4_plan_42 ?_
        refine pg_aload_n (pc := 43) (i := 0) (j := 0) (x := 164) dX4_plan_43 rfl rfl ?_
        refine pg_dup (pc := 44) dX4_plan_44 rfl ?_
        refine gfX4_24 (pc := 45) rfl h2 dX4_plan_45 ?_
        refine pg_iconst (pc := 48) (v := 1) dX4_plan_48 (by decide) ?_
        refine pg_iadd (pc := 49) dX4_plan_49 ?_
        refine pfX4_24 (pc := 50) rfl h2 dX4_plan_50 ?_
        refine pg_named (fun N1 u1 => ?_)
        refine pg_iinc (pc := 53) (i := 3) (j := 3) (x := v3) (v := v3 + 1) (ls' := [(3, .int (v3 + 1)), (0, .ref 164), (1, .ref v1), (2, .ref v2)]) dX4_plan_53 rfl rfl (by decide) rfl ?_
        refine pg_goto (pc := 56) (tgt := 7) dX4_plan_56 (by decide) ?_
        refine pg_drop (ks := [1, 2, 3, 0]) (ls' := [(0, .ref 164), (1, .ref v1), (2, .ref v2), (3, .int (v3 + 1))]) rfl ?_
        exact k3 c0 c1 c2 N1 u1
theorem sX4_plan_61 {v1 : Nat} {v2 : Nat} {v3 : Int32} 
    (h0 : pg_isX4 Λ)
    (k0 : ((M.1 164 4) ≤ v3) → pg_At S Λ YX4_plan (d + 1) 140 [(0, .ref 164), (3, .int (((1 : Int32) <<< (((pg_si M 167 (0 : Int32).toNatClampNeg 0).1 164 4) &&& 31)) - 1)), (4, .int 1)] [] (pg_si M 167 (0 : Int32).toNatClampNeg 0) P)
    (k1 : (¬ (M.1 164 4) ≤ v3) → pg_At S Λ YX4_plan (d + 1) 72 [(0, .ref 164), (1, .ref v1), (2, .ref v2), (3, .int v3), (4, .int 0)] [] M P) :
    pg_At S Λ YX4_plan (d + 1) 61 [(0, .ref 164), (1, .ref v1), (2, .ref v2), (3, .int v3)] [] M P := by
  refine pg_iload_n (pc := 61) (i := 3) (j := 3) (x := v3) dX4_plan_61 rfl rfl ?_
  refine pg_aload_n (pc := 62) (i := 0) (j := 0) (x := 164) dX4_plan_62 rfl rfl ?_
  refine gfX4_24 (pc := 63) rfl h0 dX4_plan_63 ?_
  refine pg_icmp_ge (pc := 66) (tgt := 121) dX4_plan_66 (by decide) (fun c0 => ?_) (fun c0 => ?_)
  · skip
    refine pg_aload_n (pc := 121) (i := 0) (j := 0) (x := 164) dX4_plan_121 rfl rfl ?_
    refine gfX4_18 (pc := 122) rfl h0 dX4_plan_122 ?_
    refine pg_iconst (pc := 125) (v := 0) dX4_plan_125 (by decide) ?_
    refine pg_iconst (pc := 126) (v := 0) dX4_plan_126 (by decide) ?_
    refine pg_iast (pc := 127) h0.2.2.2.1 (by unfold vp_in; decide) dX4_plan_127 ?_
    refine pg_iconst (pc := 128) (v := 1) dX4_plan_128 (by decide) ?_
    refine pg_aload_n (pc := 129) (i := 0) (j := 0) (x := 164) dX4_plan_129 rfl rfl ?_
    refine gfX4_24 (pc := 130) rfl h0 dX4_plan_130 ?_
    refine pg_ishl (pc := 133) dX4_plan_133 ?_
    refine pg_iconst (pc := 134) (v := 1) dX4_plan_134 (by decide) ?_
    refine pg_isub (pc := 135) dX4_plan_135 ?_
    refine pg_istore_n (pc := 136) (i := 3) (ls' := [(3, .int (((1 : Int32) <<< (((pg_si M 167 (0 : Int32).toNatClampNeg 0).1 164 4) &&& 31)) - 1)), (0, .ref 164), (1, .ref v1), (2, .ref v2)]) dX4_plan_136 rfl (by decide) rfl ?_
    refine pg_iconst (pc := 137) (v := 1) dX4_plan_137 (by decide) ?_
    refine pg_istore (pc := 138) (i := 4) (ls' := [(4, .int 1), (3, .int (((1 : Int32) <<< (((pg_si M 167 (0 : Int32).toNatClampNeg 0).1 164 4) &&& 31)) - 1)), (0, .ref 164), (1, .ref v1), (2, .ref v2)]) dX4_plan_138 (by decide) rfl ?_
    refine pg_drop (ks := [2, 1, 0]) (ls' := [(0, .ref 164), (3, .int (((1 : Int32) <<< (((pg_si M 167 (0 : Int32).toNatClampNeg 0).1 164 4) &&& 31)) - 1)), (4, .int 1)]) rfl ?_
    exact k0 c0
  · skip
    refine pg_iconst (pc := 69) (v := 0) dX4_plan_69 (by decide) ?_
    refine pg_istore (pc := 70) (i := 4) (ls' := [(4, .int 0), (0, .ref 164), (1, .ref v1), (2, .ref v2), (3, .int v3)]) dX4_plan_70 (by decide) rfl ?_
    refine pg_drop (ks := [1, 2, 3, 4, 0]) (ls' := [(0, .ref 164), (1, .ref v1), (2, .ref v2), (3, .int v3), (4, .int 0)]) rfl ?_
    exact k1 c0
theorem sX4_plan_140 {v3 : Int32} {v4 : Int32} {Q0 : pg_M → Prop} {Q1 : pg_M → Prop} {Q2 : Int32 → pg_M → Prop}
    (h0 : pg_isX4 Λ)
    (b0 : (v3 < v4) → vp_in v3 64)
    (e0 : (v3 < v4) → ((M.1 167 v3.toNatClampNeg) ≤ 99) → pg_Ev S Λ YX4_layOrder d [.ref 164, .int v3] (pg_si M 164 5 (M.1 167 v3.toNatClampNeg)) (fun r M' => r = none ∧ Q0 M'))
    (k0 : (v3 < v4) → ((M.1 167 v3.toNatClampNeg) ≤ 99) → ∀ M1, Q0 M1 → P none M1)
    (e1 : (v3 < v4) → (¬ (M.1 167 v3.toNatClampNeg) ≤ 99) → pg_Ev S Λ YX4_layOrder d [.ref 164, .int v3] (pg_si M 164 5 (-1)) (fun r M' => r = none ∧ Q1 M'))
    (k1 : (v3 < v4) → (¬ (M.1 167 v3.toNatClampNeg) ≤ 99) → ∀ M2, Q1 M2 → P none M2)
    (e2 : (¬ v3 < v4) → pg_Ev S Λ YX4_soonestOf d [.ref 164, .int v4] M (fun r M' => ∃ x, r = some (.int x) ∧ Q2 x M'))
    (b1 : (¬ v3 < v4) → ∀ x3 M3, Q2 x3 M3 → vp_in v4 64)
    (k2 : (¬ v3 < v4) → ∀ x3 M3, Q2 x3 M3 → pg_At S Λ YX4_plan (d + 1) 140 [(0, .ref 164), (3, .int v3), (4, .int (v4 + 1))] [] (pg_si M3 167 v4.toNatClampNeg x3) P) :
    pg_At S Λ YX4_plan (d + 1) 140 [(0, .ref 164), (3, .int v3), (4, .int v4)] [] M P := by
  refine pg_iload (pc := 140) (i := 4) (j := 2) (x := v4) dX4_plan_140 rfl ?_
  refine pg_iload_n (pc := 142) (i := 3) (j := 1) (x := v3) dX4_plan_142 rfl rfl ?_
  refine pg_icmp_gt (pc := 143) (tgt := 165) dX4_plan_143 (by decide) (fun c0 => ?_) (fun c0 => ?_)
  · skip
    refine pg_aload_n (pc := 165) (i := 0) (j := 0) (x := 164) dX4_plan_165 rfl rfl ?_
    refine pg_aload_n (pc := 166) (i := 0) (j := 0) (x := 164) dX4_plan_166 rfl rfl ?_
    refine gfX4_18 (pc := 167) rfl h0 dX4_plan_167 ?_
    refine pg_iload_n (pc := 170) (i := 3) (j := 1) (x := v3) dX4_plan_170 rfl rfl ?_
    refine pg_iald (pc := 171) h0.2.2.2.1 (b0 c0) dX4_plan_171 ?_
    refine pg_bipush (pc := 172) (v := 99) dX4_plan_172 (by decide) ?_
    refine pg_icmp_le (pc := 174) (tgt := 181) dX4_plan_174 (by decide) (fun c1 => ?_) (fun c1 => ?_)
    · skip
      refine pg_aload_n (pc := 181) (i := 0) (j := 0) (x := 164) dX4_plan_181 rfl rfl ?_
      refine gfX4_18 (pc := 182) rfl h0 dX4_plan_182 ?_
      refine pg_iload_n (pc := 185) (i := 3) (j := 1) (x := v3) dX4_plan_185 rfl rfl ?_
      refine pg_iald (pc := 186) h0.2.2.2.1 (b0 c0) dX4_plan_186 ?_
      refine pfX4_52 (pc := 187) rfl h0 dX4_plan_187 ?_
      refine pg_aload_n (pc := 190) (i := 0) (j := 0) (x := 164) dX4_plan_190 rfl rfl ?_
      refine pg_iload_n (pc := 191) (i := 3) (j := 1) (x := v3) dX4_plan_191 rfl rfl ?_
      refine pg_callV (pc := 192) (As := [.int v3]) (st := []) okX4_layOrder lkX4_55 rfl h0.1 rfl (Nat.le_refl _) (Nat.le_of_ble_eq_true rfl) (e0 c0 c1) dX4_plan_192 (fun r1 M1 w1 => ?_)
      obtain ⟨rfl, w1⟩ := w1
      exact pg_vret (pc := 195) rfl dX4_plan_195 (k0 c0 c1 M1 w1)
    · skip
      refine pg_iconst (pc := 177) (v := (-1)) dX4_plan_177 (by decide) ?_
      refine pg_goto (pc := 178) (tgt := 187) dX4_plan_178 (by decide) ?_
      refine pfX4_52 (pc := 187) rfl h0 dX4_plan_187 ?_
      refine pg_aload_n (pc := 190) (i := 0) (j := 0) (x := 164) dX4_plan_190 rfl rfl ?_
      refine pg_iload_n (pc := 191) (i := 3) (j := 1) (x := v3) dX4_plan_191 rfl rfl ?_
      refine pg_callV (pc := 192) (As := [.int v3]) (st := []) okX4_layOrder lkX4_55 rfl h0.1 rfl (Nat.le_refl _) (Nat.le_of_ble_eq_true rfl) (e1 c0 c1) dX4_plan_192 (fun r2 M2 w2 => ?_)
      obtain ⟨rfl, w2⟩ := w2
      exact pg_vret (pc := 195) rfl dX4_plan_195 (k1 c0 c1 M2 w2)
  · skip
    refine pg_aload_n (pc := 146) (i := 0) (j := 0) (x := 164) dX4_plan_146 rfl rfl ?_
    refine gfX4_18 (pc := 147) rfl h0 dX4_plan_147 ?_
    refine pg_iload (pc := 150) (i := 4) (j := 2) (x := v4) dX4_plan_150 rfl ?_
    refine pg_aload_n (pc := 152) (i := 0) (j := 0) (x := 164) dX4_plan_152 rfl rfl ?_
    refine pg_iload (pc := 153) (i := 4) (j := 2) (x := v4) dX4_plan_153 rfl ?_
    refine pg_callV (pc := 155) (As := [.int v4]) (st := [.int v4, .ref 167]) okX4_soonestOf lkX4_48 rfl h0.1 rfl (Nat.le_refl _) (Nat.le_of_ble_eq_true rfl) (e2 c0) dX4_plan_155 (fun r3 M3 w3 => ?_)
    obtain ⟨x3, rfl, w3⟩ := w3
    refine pg_iast (pc := 158) h0.2.2.2.1 (b1 c0 x3 M3 w3) dX4_plan_158 ?_
    refine pg_iinc (pc := 159) (i := 4) (j := 2) (x := v4) (v := v4 + 1) (ls' := [(4, .int (v4 + 1)), (0, .ref 164), (3, .int v3)]) dX4_plan_159 rfl rfl (by decide) rfl ?_
    refine pg_goto (pc := 162) (tgt := 140) dX4_plan_162 (by decide) ?_
    refine pg_drop (ks := [1, 2, 0]) (ls' := [(0, .ref 164), (3, .int v3), (4, .int (v4 + 1))]) rfl ?_
    exact k2 c0 x3 M3 w3
theorem sX4_plan_72 {v1 : Nat} {v2 : Nat} {v3 : Int32} {v4 : Int32} {Q0 : Int32 → pg_M → Prop}
    (h0 : pg_isX4 Λ)
    (h1 : pg_isX9 Λ v2)
    (k0 : ((M.1 164 4) ≤ v4) → pg_At S Λ YX4_plan (d + 1) 61 [(0, .ref 164), (1, .ref v1), (2, .ref v2), (3, .int (v3 + 1))] [] M P)
    (b0 : (¬ (M.1 164 4) ≤ v4) → vp_in v3 6)
    (e0 : (¬ (M.1 164 4) ≤ v4) → pg_Ev S Λ YX4_dryAt d [.ref v1, .int (M.1 165 v3.toNatClampNeg), .int (M.1 v2 5), .int v4] M (fun r M' => ∃ x, r = some (.int x) ∧ Q0 x M'))
    (b1 : (¬ (M.1 164 4) ≤ v4) → ∀ x1 M1, Q0 x1 M1 → vp_in ((v3 * 6) + v4) 36)
    (k1 : (¬ (M.1 164 4) ≤ v4) → ∀ x1 M1, Q0 x1 M1 → pg_At S Λ YX4_plan (d + 1) 72 [(0, .ref 164), (1, .ref v1), (2, .ref v2), (3, .int v3), (4, .int (v4 + 1))] [] (pg_si M1 166 ((v3 * 6) + v4).toNatClampNeg x1) P) :
    pg_At S Λ YX4_plan (d + 1) 72 [(0, .ref 164), (1, .ref v1), (2, .ref v2), (3, .int v3), (4, .int v4)] [] M P := by
  refine pg_iload (pc := 72) (i := 4) (j := 4) (x := v4) dX4_plan_72 rfl ?_
  refine pg_aload_n (pc := 74) (i := 0) (j := 0) (x := 164) dX4_plan_74 rfl rfl ?_
  refine gfX4_24 (pc := 75) rfl h0 dX4_plan_75 ?_
  refine pg_icmp_ge (pc := 78) (tgt := 115) dX4_plan_78 (by decide) (fun c0 => ?_) (fun c0 => ?_)
  · skip
    refine pg_iinc (pc := 115) (i := 3) (j := 3) (x := v3) (v := v3 + 1) (ls' := [(3, .int (v3 + 1)), (0, .ref 164), (1, .ref v1), (2, .ref v2), (4, .int v4)]) dX4_plan_115 rfl rfl (by decide) rfl ?_
    refine pg_goto (pc := 118) (tgt := 61) dX4_plan_118 (by decide) ?_
    refine pg_drop (ks := [1, 2, 3, 0]) (ls' := [(0, .ref 164), (1, .ref v1), (2, .ref v2), (3, .int (v3 + 1))]) rfl ?_
    exact k0 c0
  · skip
    refine pg_aload_n (pc := 81) (i := 0) (j := 0) (x := 164) dX4_plan_81 rfl rfl ?_
    refine gfX4_15 (pc := 82) rfl h0 dX4_plan_82 ?_
    refine pg_iload_n (pc := 85) (i := 3) (j := 3) (x := v3) dX4_plan_85 rfl rfl ?_
    refine pg_bipush (pc := 86) (v := 6) dX4_plan_86 (by decide) ?_
    refine pg_imul (pc := 88) dX4_plan_88 ?_
    refine pg_iload (pc := 89) (i := 4) (j := 4) (x := v4) dX4_plan_89 rfl ?_
    refine pg_iadd (pc := 91) dX4_plan_91 ?_
    refine pg_aload_n (pc := 92) (i := 1) (j := 1) (x := v1) dX4_plan_92 rfl rfl ?_
    refine pg_aload_n (pc := 93) (i := 0) (j := 0) (x := 164) dX4_plan_93 rfl rfl ?_
    refine gfX4_9 (pc := 94) rfl h0 dX4_plan_94 ?_
    refine pg_iload_n (pc := 97) (i := 3) (j := 3) (x := v3) dX4_plan_97 rfl rfl ?_
    refine pg_iald (pc := 98) h0.2.1 (b0 c0) dX4_plan_98 ?_
    refine pg_aload_n (pc := 99) (i := 2) (j := 2) (x := v2) dX4_plan_99 rfl rfl ?_
    refine gfX4_41 (pc := 100) rfl h1 dX4_plan_100 ?_
    refine pg_iload (pc := 103) (i := 4) (j := 4) (x := v4) dX4_plan_103 rfl ?_
    refine pg_callS (pc := 105) (As := [.ref v1, .int (M.1 165 v3.toNatClampNeg), .int (M.1 v2 5), .int v4]) (st := [.int ((v3 * 6) + v4), .ref 166]) okX4_dryAt lkX4_44 rfl (Nat.le_refl _) (Nat.le_of_ble_eq_true rfl) (e0 c0) dX4_plan_105 (fun r1 M1 w1 => ?_)
    obtain ⟨x1, rfl, w1⟩ := w1
    refine pg_iast (pc := 108) h0.2.2.1 (b1 c0 x1 M1 w1) dX4_plan_108 ?_
    refine pg_iinc (pc := 109) (i := 4) (j := 4) (x := v4) (v := v4 + 1) (ls' := [(4, .int (v4 + 1)), (0, .ref 164), (1, .ref v1), (2, .ref v2), (3, .int v3)]) dX4_plan_109 rfl rfl (by decide) rfl ?_
    refine pg_goto (pc := 112) (tgt := 72) dX4_plan_112 (by decide) ?_
    refine pg_drop (ks := [1, 2, 3, 4, 0]) (ls' := [(0, .ref 164), (1, .ref v1), (2, .ref v2), (3, .int v3), (4, .int (v4 + 1))]) rfl ?_
    exact k1 c0 x1 M1 w1
theorem oX4_plan {d : Nat} {v1 : Nat} {v2 : Nat} (h : pg_At S Λ YX4_plan d 0 [(0, .ref 164), (1, .ref v1), (2, .ref v2)] [] M P) : pg_Ev S Λ YX4_plan d [.ref 164, .ref v1, .ref v2] M P := pg_Ev.of (by decide) (by first | decide | exact Nat.le_of_ble_eq_true rfl) h
theorem sX4_dryAt_0 {v0 : Nat} {v1 : Int32} {v2 : Int32} {v3 : Int32} 
    (k0 : pg_At S Λ YX4_dryAt (d + 1) 7 [(0, .ref v0), (1, .int v1), (2, .int v2), (4, .int 9), (5, .int v3)] [] M P) :
    pg_At S Λ YX4_dryAt (d + 1) 0 [(0, .ref v0), (1, .int v1), (2, .int v2), (3, .int v3)] [] M P := by
  refine pg_bipush (pc := 0) (v := 9) dX4_dryAt_0 (by decide) ?_
  refine pg_istore (pc := 2) (i := 4) (ls' := [(4, .int 9), (0, .ref v0), (1, .int v1), (2, .int v2), (3, .int v3)]) dX4_dryAt_2 (by decide) rfl ?_
  refine pg_iload_n (pc := 4) (i := 3) (j := 4) (x := v3) dX4_dryAt_4 rfl rfl ?_
  refine pg_istore (pc := 5) (i := 5) (ls' := [(5, .int v3), (4, .int 9), (0, .ref v0), (1, .int v1), (2, .int v2), (3, .int v3)]) dX4_dryAt_5 (by decide) rfl ?_
  refine pg_drop (ks := [2, 3, 4, 1, 0]) (ls' := [(0, .ref v0), (1, .int v1), (2, .int v2), (4, .int 9), (5, .int v3)]) rfl ?_
  exact k0
theorem sX4_dryAt_7 {v0 : Nat} {v1 : Int32} {v2 : Int32} {v4 : Int32} {v5 : Int32} {Q0 : Int32 → pg_M → Prop} {Q1 : Int32 → pg_M → Prop}
    (h0 : pg_isX5 Λ v0)
    (k0 : (99 ≤ v5) → P (some (.int 100)) M)
    (e0 : (¬ 99 ≤ v5) → pg_Ev S Λ YX5_windAt d [.ref v0, .int (v2 + v5)] M (fun r M' => ∃ x, r = some (.int x) ∧ Q0 x M'))
    (e1 : (¬ 99 ≤ v5) → ∀ x1 M1, Q0 x1 M1 → pg_Ev S Λ YX5_wetAfter d [.ref v0, .int v1, .int v4, .int x1] M1 (fun r M' => ∃ x, r = some (.int x) ∧ Q1 x M'))
    (k1 : (¬ 99 ≤ v5) → ∀ x1 M1, Q0 x1 M1 → ∀ x2 M2, Q1 x2 M2 → (¬ x2 = 0) → pg_At S Λ YX4_dryAt (d + 1) 7 [(0, .ref v0), (1, .int v1), (2, .int v2), (4, .int x2), (5, .int (v5 + 1))] [] M2 P)
    (k2 : (¬ 99 ≤ v5) → ∀ x1 M1, Q0 x1 M1 → ∀ x2 M2, Q1 x2 M2 → (x2 = 0) → P (some (.int (v5 + 1))) M2) :
    pg_At S Λ YX4_dryAt (d + 1) 7 [(0, .ref v0), (1, .int v1), (2, .int v2), (4, .int v4), (5, .int v5)] [] M P := by
  refine pg_iload (pc := 7) (i := 5) (j := 4) (x := v5) dX4_dryAt_7 rfl ?_
  refine pg_bipush (pc := 9) (v := 99) dX4_dryAt_9 (by decide) ?_
  refine pg_icmp_ge (pc := 11) (tgt := 47) dX4_dryAt_11 (by decide) (fun c0 => ?_) (fun c0 => ?_)
  · skip
    refine pg_bipush (pc := 47) (v := 100) dX4_dryAt_47 (by decide) ?_
    exact pg_iret (pc := 49) rfl dX4_dryAt_49 (k0 c0)
  · skip
    refine pg_aload_n (pc := 14) (i := 0) (j := 0) (x := v0) dX4_dryAt_14 rfl rfl ?_
    refine pg_iload_n (pc := 15) (i := 1) (j := 1) (x := v1) dX4_dryAt_15 rfl rfl ?_
    refine pg_iload (pc := 16) (i := 4) (j := 3) (x := v4) dX4_dryAt_16 rfl ?_
    refine pg_aload_n (pc := 18) (i := 0) (j := 0) (x := v0) dX4_dryAt_18 rfl rfl ?_
    refine pg_iload_n (pc := 19) (i := 2) (j := 2) (x := v2) dX4_dryAt_19 rfl rfl ?_
    refine pg_iload (pc := 20) (i := 5) (j := 4) (x := v5) dX4_dryAt_20 rfl ?_
    refine pg_iadd (pc := 22) dX4_dryAt_22 ?_
    refine pg_callV (pc := 23) (As := [.int (v2 + v5)]) (st := [.int v4, .int v1, .ref v0]) okX5_windAt lkX4_59 rfl h0.1 rfl (Nat.le_refl _) (Nat.le_of_ble_eq_true rfl) (e0 c0) dX4_dryAt_23 (fun r1 M1 w1 => ?_)
    obtain ⟨x1, rfl, w1⟩ := w1
    refine pg_callV (pc := 26) (As := [.int v1, .int v4, .int x1]) (st := []) okX5_wetAfter lkX4_62 rfl h0.1 rfl (Nat.le_refl _) (Nat.le_of_ble_eq_true rfl) (e1 c0 x1 M1 w1) dX4_dryAt_26 (fun r2 M2 w2 => ?_)
    obtain ⟨x2, rfl, w2⟩ := w2
    refine pg_istore (pc := 29) (i := 4) (ls' := [(4, .int x2), (0, .ref v0), (1, .int v1), (2, .int v2), (5, .int v5)]) dX4_dryAt_29 (by decide) rfl ?_
    refine pg_iload (pc := 31) (i := 4) (j := 0) (x := x2) dX4_dryAt_31 rfl ?_
    refine pg_if_ne (pc := 33) (tgt := 41) dX4_dryAt_33 (by decide) (fun c1 => ?_) (fun c1 => ?_)
    · skip
      refine pg_iinc (pc := 41) (i := 5) (j := 4) (x := v5) (v := v5 + 1) (ls' := [(5, .int (v5 + 1)), (4, .int x2), (0, .ref v0), (1, .int v1), (2, .int v2)]) dX4_dryAt_41 rfl rfl (by decide) rfl ?_
      refine pg_goto (pc := 44) (tgt := 7) dX4_dryAt_44 (by decide) ?_
      refine pg_drop (ks := [2, 3, 4, 1, 0]) (ls' := [(0, .ref v0), (1, .int v1), (2, .int v2), (4, .int x2), (5, .int (v5 + 1))]) rfl ?_
      exact k1 c0 x1 M1 w1 x2 M2 w2 c1
    · skip
      refine pg_iload (pc := 36) (i := 5) (j := 4) (x := v5) dX4_dryAt_36 rfl ?_
      refine pg_iconst (pc := 38) (v := 1) dX4_dryAt_38 (by decide) ?_
      refine pg_iadd (pc := 39) dX4_dryAt_39 ?_
      exact pg_iret (pc := 40) rfl dX4_dryAt_40 (k2 c0 x1 M1 w1 x2 M2 w2 c1)
theorem oX4_dryAt {d : Nat} {v0 : Nat} {v1 : Int32} {v2 : Int32} {v3 : Int32} (h : pg_At S Λ YX4_dryAt d 0 [(0, .ref v0), (1, .int v1), (2, .int v2), (3, .int v3)] [] M P) : pg_Ev S Λ YX4_dryAt d [.ref v0, .int v1, .int v2, .int v3] M P := pg_Ev.of (by decide) (by first | decide | exact Nat.le_of_ble_eq_true rfl) h
theorem sX4_soonestOf_0 {v1 : Int32} 
    (k0 : pg_At S Λ YX4_soonestOf (d + 1) 5 [(0, .ref 164), (1, .int v1), (2, .int 100), (3, .int 0)] [] M P) :
    pg_At S Λ YX4_soonestOf (d + 1) 0 [(0, .ref 164), (1, .int v1)] [] M P := by
  refine pg_bipush (pc := 0) (v := 100) dX4_soonestOf_0 (by decide) ?_
  refine pg_istore_n (pc := 2) (i := 2) (ls' := [(2, .int 100), (0, .ref 164), (1, .int v1)]) dX4_soonestOf_2 rfl (by decide) rfl ?_
  refine pg_iconst (pc := 3) (v := 0) dX4_soonestOf_3 (by decide) ?_
  refine pg_istore_n (pc := 4) (i := 3) (ls' := [(3, .int 0), (2, .int 100), (0, .ref 164), (1, .int v1)]) dX4_soonestOf_4 rfl (by decide) rfl ?_
  refine pg_drop (ks := [2, 3, 1, 0]) (ls' := [(0, .ref 164), (1, .int v1), (2, .int 100), (3, .int 0)]) rfl ?_
  exact k0
theorem sX4_soonestOf_5 {v1 : Int32} {v2 : Int32} {v3 : Int32} {Q0 : Int32 → pg_M → Prop}
    (h0 : pg_isX4 Λ)
    (k0 : ((M.1 164 4) ≤ v3) → P (some (.int v2)) M)
    (k1 : (¬ (M.1 164 4) ≤ v3) → (((v1 >>> (v3 &&& 31)) &&& 1) = 0) → pg_At S Λ YX4_soonestOf (d + 1) 5 [(0, .ref 164), (1, .int v1), (2, .int v2), (3, .int (v3 + 1))] [] M P)
    (e0 : (¬ (M.1 164 4) ≤ v3) → (¬ ((v1 >>> (v3 &&& 31)) &&& 1) = 0) → pg_Ev S Λ YX4_dryIfNext d [.ref 164, .int v1, .int v3] M (fun r M' => ∃ x, r = some (.int x) ∧ Q0 x M'))
    (k2 : (¬ (M.1 164 4) ≤ v3) → (¬ ((v1 >>> (v3 &&& 31)) &&& 1) = 0) → ∀ x1 M1, Q0 x1 M1 → pg_At S Λ YX4_soonestOf (d + 1) 5 [(0, .ref 164), (1, .int v1), (2, .int (pg_min v2 x1)), (3, .int (v3 + 1))] [] M1 P) :
    pg_At S Λ YX4_soonestOf (d + 1) 5 [(0, .ref 164), (1, .int v1), (2, .int v2), (3, .int v3)] [] M P := by
  refine pg_iload_n (pc := 5) (i := 3) (j := 3) (x := v3) dX4_soonestOf_5 rfl rfl ?_
  refine pg_aload_n (pc := 6) (i := 0) (j := 0) (x := 164) dX4_soonestOf_6 rfl rfl ?_
  refine gfX4_24 (pc := 7) rfl h0 dX4_soonestOf_7 ?_
  refine pg_icmp_ge (pc := 10) (tgt := 38) dX4_soonestOf_10 (by decide) (fun c0 => ?_) (fun c0 => ?_)
  · skip
    refine pg_iload_n (pc := 38) (i := 2) (j := 2) (x := v2) dX4_soonestOf_38 rfl rfl ?_
    exact pg_iret (pc := 39) rfl dX4_soonestOf_39 (k0 c0)
  · skip
    refine pg_iload_n (pc := 13) (i := 1) (j := 1) (x := v1) dX4_soonestOf_13 rfl rfl ?_
    refine pg_iload_n (pc := 14) (i := 3) (j := 3) (x := v3) dX4_soonestOf_14 rfl rfl ?_
    refine pg_ishr (pc := 15) dX4_soonestOf_15 ?_
    refine pg_iconst (pc := 16) (v := 1) dX4_soonestOf_16 (by decide) ?_
    refine pg_iand (pc := 17) dX4_soonestOf_17 ?_
    refine pg_if_eq (pc := 18) (tgt := 32) dX4_soonestOf_18 (by decide) (fun c1 => ?_) (fun c1 => ?_)
    · skip
      refine pg_iinc (pc := 32) (i := 3) (j := 3) (x := v3) (v := v3 + 1) (ls' := [(3, .int (v3 + 1)), (0, .ref 164), (1, .int v1), (2, .int v2)]) dX4_soonestOf_32 rfl rfl (by decide) rfl ?_
      refine pg_goto (pc := 35) (tgt := 5) dX4_soonestOf_35 (by decide) ?_
      refine pg_drop (ks := [1, 2, 3, 0]) (ls' := [(0, .ref 164), (1, .int v1), (2, .int v2), (3, .int (v3 + 1))]) rfl ?_
      exact k1 c0 c1
    · skip
      refine pg_iload_n (pc := 21) (i := 2) (j := 2) (x := v2) dX4_soonestOf_21 rfl rfl ?_
      refine pg_aload_n (pc := 22) (i := 0) (j := 0) (x := 164) dX4_soonestOf_22 rfl rfl ?_
      refine pg_iload_n (pc := 23) (i := 1) (j := 1) (x := v1) dX4_soonestOf_23 rfl rfl ?_
      refine pg_iload_n (pc := 24) (i := 3) (j := 3) (x := v3) dX4_soonestOf_24 rfl rfl ?_
      refine pg_callV (pc := 25) (As := [.int v1, .int v3]) (st := [.int v2]) okX4_dryIfNext lkX4_66 rfl h0.1 rfl (Nat.le_refl _) (Nat.le_of_ble_eq_true rfl) (e0 c0 c1) dX4_soonestOf_25 (fun r1 M1 w1 => ?_)
      obtain ⟨x1, rfl, w1⟩ := w1
      refine pg_jmin (pc := 28) (st := []) lkX4_70 (Nat.le_of_ble_eq_true rfl) dX4_soonestOf_28 ?_
      refine pg_istore_n (pc := 31) (i := 2) (ls' := [(2, .int (pg_min v2 x1)), (0, .ref 164), (1, .int v1), (3, .int v3)]) dX4_soonestOf_31 rfl (by decide) rfl ?_
      refine pg_iinc (pc := 32) (i := 3) (j := 3) (x := v3) (v := v3 + 1) (ls' := [(3, .int (v3 + 1)), (2, .int (pg_min v2 x1)), (0, .ref 164), (1, .int v1)]) dX4_soonestOf_32 rfl rfl (by decide) rfl ?_
      refine pg_goto (pc := 35) (tgt := 5) dX4_soonestOf_35 (by decide) ?_
      refine pg_drop (ks := [2, 3, 1, 0]) (ls' := [(0, .ref 164), (1, .int v1), (2, .int (pg_min v2 x1)), (3, .int (v3 + 1))]) rfl ?_
      exact k2 c0 c1 x1 M1 w1
theorem oX4_soonestOf {d : Nat} {v1 : Int32} (h : pg_At S Λ YX4_soonestOf d 0 [(0, .ref 164), (1, .int v1)] [] M P) : pg_Ev S Λ YX4_soonestOf d [.ref 164, .int v1] M P := pg_Ev.of (by decide) (by first | decide | exact Nat.le_of_ble_eq_true rfl) h
theorem sX4_dryIfNext_0 {v1 : Int32} {v2 : Int32} 
    (h0 : pg_isX4 Λ)
    (b0 : vp_in ((v2 * 6) + ((M.1 164 4) - (pg_bc v1))) 36)
    (b1 : vp_in (v1 &&& (((1 : Int32) <<< (v2 &&& 31)) ^^^ (-1))) 64)
    (k0 : P (some (.int (pg_max (M.1 166 ((v2 * 6) + ((M.1 164 4) - (pg_bc v1))).toNatClampNeg) (M.1 167 (v1 &&& (((1 : Int32) <<< (v2 &&& 31)) ^^^ (-1))).toNatClampNeg)))) M) :
    pg_At S Λ YX4_dryIfNext (d + 1) 0 [(0, .ref 164), (1, .int v1), (2, .int v2)] [] M P := by
  refine pg_aload_n (pc := 0) (i := 0) (j := 0) (x := 164) dX4_dryIfNext_0 rfl rfl ?_
  refine gfX4_24 (pc := 1) rfl h0 dX4_dryIfNext_1 ?_
  refine pg_iload_n (pc := 4) (i := 1) (j := 1) (x := v1) dX4_dryIfNext_4 rfl rfl ?_
  refine pg_jbc (pc := 5) (st := [.int (M.1 164 4)]) lkX4_75 (Nat.le_of_ble_eq_true rfl) dX4_dryIfNext_5 ?_
  refine pg_isub (pc := 8) dX4_dryIfNext_8 ?_
  refine pg_istore_n (pc := 9) (i := 3) (ls' := [(3, .int ((M.1 164 4) - (pg_bc v1))), (0, .ref 164), (1, .int v1), (2, .int v2)]) dX4_dryIfNext_9 rfl (by decide) rfl ?_
  refine pg_aload_n (pc := 10) (i := 0) (j := 1) (x := 164) dX4_dryIfNext_10 rfl rfl ?_
  refine gfX4_15 (pc := 11) rfl h0 dX4_dryIfNext_11 ?_
  refine pg_iload_n (pc := 14) (i := 2) (j := 3) (x := v2) dX4_dryIfNext_14 rfl rfl ?_
  refine pg_bipush (pc := 15) (v := 6) dX4_dryIfNext_15 (by decide) ?_
  refine pg_imul (pc := 17) dX4_dryIfNext_17 ?_
  refine pg_iload_n (pc := 18) (i := 3) (j := 0) (x := ((M.1 164 4) - (pg_bc v1))) dX4_dryIfNext_18 rfl rfl ?_
  refine pg_iadd (pc := 19) dX4_dryIfNext_19 ?_
  refine pg_iald (pc := 20) h0.2.2.1 b0 dX4_dryIfNext_20 ?_
  refine pg_aload_n (pc := 21) (i := 0) (j := 1) (x := 164) dX4_dryIfNext_21 rfl rfl ?_
  refine gfX4_18 (pc := 22) rfl h0 dX4_dryIfNext_22 ?_
  refine pg_iload_n (pc := 25) (i := 1) (j := 2) (x := v1) dX4_dryIfNext_25 rfl rfl ?_
  refine pg_iconst (pc := 26) (v := 1) dX4_dryIfNext_26 (by decide) ?_
  refine pg_iload_n (pc := 27) (i := 2) (j := 3) (x := v2) dX4_dryIfNext_27 rfl rfl ?_
  refine pg_ishl (pc := 28) dX4_dryIfNext_28 ?_
  refine pg_iconst (pc := 29) (v := (-1)) dX4_dryIfNext_29 (by decide) ?_
  refine pg_ixor (pc := 30) dX4_dryIfNext_30 ?_
  refine pg_iand (pc := 31) dX4_dryIfNext_31 ?_
  refine pg_iald (pc := 32) h0.2.2.2.1 b1 dX4_dryIfNext_32 ?_
  refine pg_jmax (pc := 33) (st := []) lkX4_80 (Nat.le_of_ble_eq_true rfl) dX4_dryIfNext_33 ?_
  exact pg_iret (pc := 36) rfl dX4_dryIfNext_36 k0
theorem oX4_dryIfNext {d : Nat} {v1 : Int32} {v2 : Int32} (h : pg_At S Λ YX4_dryIfNext d 0 [(0, .ref 164), (1, .int v1), (2, .int v2)] [] M P) : pg_Ev S Λ YX4_dryIfNext d [.ref 164, .int v1, .int v2] M P := pg_Ev.of (by decide) (by first | decide | exact Nat.le_of_ble_eq_true rfl) h
theorem sX4_layOrder_0 {v1 : Int32} 
    (k0 : pg_At S Λ YX4_layOrder (d + 1) 4 [(0, .ref 164), (1, .int v1), (2, .int v1), (3, .int 0)] [] M P) :
    pg_At S Λ YX4_layOrder (d + 1) 0 [(0, .ref 164), (1, .int v1)] [] M P := by
  refine pg_iload_n (pc := 0) (i := 1) (j := 1) (x := v1) dX4_layOrder_0 rfl rfl ?_
  refine pg_istore_n (pc := 1) (i := 2) (ls' := [(2, .int v1), (0, .ref 164), (1, .int v1)]) dX4_layOrder_1 rfl (by decide) rfl ?_
  refine pg_iconst (pc := 2) (v := 0) dX4_layOrder_2 (by decide) ?_
  refine pg_istore_n (pc := 3) (i := 3) (ls' := [(3, .int 0), (2, .int v1), (0, .ref 164), (1, .int v1)]) dX4_layOrder_3 rfl (by decide) rfl ?_
  refine pg_drop (ks := [2, 3, 1, 0]) (ls' := [(0, .ref 164), (1, .int v1), (2, .int v1), (3, .int 0)]) rfl ?_
  exact k0
theorem sX4_layOrder_4 {v1 : Int32} {v2 : Int32} {v3 : Int32} {Q0 : Int32 → pg_M → Prop}
    (h0 : pg_isX4 Λ)
    (k0 : ((M.1 164 4) ≤ v3) → P none M)
    (b0 : (¬ (M.1 164 4) ≤ v3) → vp_in v1 64)
    (e0 : (¬ (M.1 164 4) ≤ v3) → pg_Ev S Λ YX4_firstInTime d [.ref 164, .int v2, .int (M.1 167 v1.toNatClampNeg)] M (fun r M' => ∃ x, r = some (.int x) ∧ Q0 x M'))
    (b1 : (¬ (M.1 164 4) ≤ v3) → ∀ x1 M1, Q0 x1 M1 → vp_in x1 6)
    (b2 : (¬ (M.1 164 4) ≤ v3) → ∀ x1 M1, Q0 x1 M1 → vp_in v3 6)
    (k1 : (¬ (M.1 164 4) ≤ v3) → ∀ x1 M1, Q0 x1 M1 → pg_At S Λ YX4_layOrder (d + 1) 4 [(0, .ref 164), (1, .int v1), (2, .int (v2 &&& (((1 : Int32) <<< (x1 &&& 31)) ^^^ (-1)))), (3, .int (v3 + 1))] [] (pg_si M1 168 v3.toNatClampNeg (M1.1 165 x1.toNatClampNeg)) P) :
    pg_At S Λ YX4_layOrder (d + 1) 4 [(0, .ref 164), (1, .int v1), (2, .int v2), (3, .int v3)] [] M P := by
  refine pg_iload_n (pc := 4) (i := 3) (j := 3) (x := v3) dX4_layOrder_4 rfl rfl ?_
  refine pg_aload_n (pc := 5) (i := 0) (j := 0) (x := 164) dX4_layOrder_5 rfl rfl ?_
  refine gfX4_24 (pc := 6) rfl h0 dX4_layOrder_6 ?_
  refine pg_icmp_ge (pc := 9) (tgt := 53) dX4_layOrder_9 (by decide) (fun c0 => ?_) (fun c0 => ?_)
  · skip
    exact pg_vret (pc := 53) rfl dX4_layOrder_53 (k0 c0)
  · skip
    refine pg_aload_n (pc := 12) (i := 0) (j := 0) (x := 164) dX4_layOrder_12 rfl rfl ?_
    refine pg_iload_n (pc := 13) (i := 2) (j := 2) (x := v2) dX4_layOrder_13 rfl rfl ?_
    refine pg_aload_n (pc := 14) (i := 0) (j := 0) (x := 164) dX4_layOrder_14 rfl rfl ?_
    refine gfX4_18 (pc := 15) rfl h0 dX4_layOrder_15 ?_
    refine pg_iload_n (pc := 18) (i := 1) (j := 1) (x := v1) dX4_layOrder_18 rfl rfl ?_
    refine pg_iald (pc := 19) h0.2.2.2.1 (b0 c0) dX4_layOrder_19 ?_
    refine pg_callV (pc := 20) (As := [.int v2, .int (M.1 167 v1.toNatClampNeg)]) (st := []) okX4_firstInTime lkX4_83 rfl h0.1 rfl (Nat.le_refl _) (Nat.le_of_ble_eq_true rfl) (e0 c0) dX4_layOrder_20 (fun r1 M1 w1 => ?_)
    obtain ⟨x1, rfl, w1⟩ := w1
    refine pg_istore (pc := 23) (i := 4) (ls' := [(4, .int x1), (0, .ref 164), (1, .int v1), (2, .int v2), (3, .int v3)]) dX4_layOrder_23 (by decide) rfl ?_
    refine pg_aload_n (pc := 25) (i := 0) (j := 1) (x := 164) dX4_layOrder_25 rfl rfl ?_
    refine gfX4_21 (pc := 26) rfl h0 dX4_layOrder_26 ?_
    refine pg_iload_n (pc := 29) (i := 3) (j := 4) (x := v3) dX4_layOrder_29 rfl rfl ?_
    refine pg_aload_n (pc := 30) (i := 0) (j := 1) (x := 164) dX4_layOrder_30 rfl rfl ?_
    refine gfX4_9 (pc := 31) rfl h0 dX4_layOrder_31 ?_
    refine pg_iload (pc := 34) (i := 4) (j := 0) (x := x1) dX4_layOrder_34 rfl ?_
    refine pg_iald (pc := 36) h0.2.1 (b1 c0 x1 M1 w1) dX4_layOrder_36 ?_
    refine pg_iast (pc := 37) h0.2.2.2.2 (b2 c0 x1 M1 w1) dX4_layOrder_37 ?_
    refine pg_iload_n (pc := 38) (i := 2) (j := 3) (x := v2) dX4_layOrder_38 rfl rfl ?_
    refine pg_iconst (pc := 39) (v := 1) dX4_layOrder_39 (by decide) ?_
    refine pg_iload (pc := 40) (i := 4) (j := 0) (x := x1) dX4_layOrder_40 rfl ?_
    refine pg_ishl (pc := 42) dX4_layOrder_42 ?_
    refine pg_iconst (pc := 43) (v := (-1)) dX4_layOrder_43 (by decide) ?_
    refine pg_ixor (pc := 44) dX4_layOrder_44 ?_
    refine pg_iand (pc := 45) dX4_layOrder_45 ?_
    refine pg_istore_n (pc := 46) (i := 2) (ls' := [(2, .int (v2 &&& (((1 : Int32) <<< (x1 &&& 31)) ^^^ (-1)))), (4, .int x1), (0, .ref 164), (1, .int v1), (3, .int v3)]) dX4_layOrder_46 rfl (by decide) rfl ?_
    refine pg_iinc (pc := 47) (i := 3) (j := 4) (x := v3) (v := v3 + 1) (ls' := [(3, .int (v3 + 1)), (2, .int (v2 &&& (((1 : Int32) <<< (x1 &&& 31)) ^^^ (-1)))), (4, .int x1), (0, .ref 164), (1, .int v1)]) dX4_layOrder_47 rfl rfl (by decide) rfl ?_
    refine pg_goto (pc := 50) (tgt := 4) dX4_layOrder_50 (by decide) ?_
    refine pg_drop (ks := [3, 4, 1, 0]) (ls' := [(0, .ref 164), (1, .int v1), (2, .int (v2 &&& (((1 : Int32) <<< (x1 &&& 31)) ^^^ (-1)))), (3, .int (v3 + 1))]) rfl ?_
    exact k1 c0 x1 M1 w1
theorem oX4_layOrder {d : Nat} {v1 : Int32} (h : pg_At S Λ YX4_layOrder d 0 [(0, .ref 164), (1, .int v1)] [] M P) : pg_Ev S Λ YX4_layOrder d [.ref 164, .int v1] M P := pg_Ev.of (by decide) (by first | decide | exact Nat.le_of_ble_eq_true rfl) h
theorem sX4_firstInTime_0 {v1 : Int32} {v2 : Int32} 
    (k0 : pg_At S Λ YX4_firstInTime (d + 1) 2 [(0, .ref 164), (1, .int v1), (2, .int v2), (3, .int 0)] [] M P) :
    pg_At S Λ YX4_firstInTime (d + 1) 0 [(0, .ref 164), (1, .int v1), (2, .int v2)] [] M P := by
  refine pg_iconst (pc := 0) (v := 0) dX4_firstInTime_0 (by decide) ?_
  refine pg_istore_n (pc := 1) (i := 3) (ls' := [(3, .int 0), (0, .ref 164), (1, .int v1), (2, .int v2)]) dX4_firstInTime_1 rfl (by decide) rfl ?_
  refine pg_drop (ks := [1, 2, 3, 0]) (ls' := [(0, .ref 164), (1, .int v1), (2, .int v2), (3, .int 0)]) rfl ?_
  exact k0
theorem sX4_firstInTime_2 {v1 : Int32} {v2 : Int32} {v3 : Int32} {Q0 : Int32 → pg_M → Prop}
    (h0 : pg_isX4 Λ)
    (k0 : ((M.1 164 4) ≤ v3) → P (some (.int 0)) M)
    (k1 : (¬ (M.1 164 4) ≤ v3) → (((v1 >>> (v3 &&& 31)) &&& 1) = 0) → pg_At S Λ YX4_firstInTime (d + 1) 2 [(0, .ref 164), (1, .int v1), (2, .int v2), (3, .int (v3 + 1))] [] M P)
    (e0 : (¬ (M.1 164 4) ≤ v3) → (¬ ((v1 >>> (v3 &&& 31)) &&& 1) = 0) → pg_Ev S Λ YX4_dryIfNext d [.ref 164, .int v1, .int v3] M (fun r M' => ∃ x, r = some (.int x) ∧ Q0 x M'))
    (k2 : (¬ (M.1 164 4) ≤ v3) → (¬ ((v1 >>> (v3 &&& 31)) &&& 1) = 0) → ∀ x1 M1, Q0 x1 M1 → (v2 < x1) → pg_At S Λ YX4_firstInTime (d + 1) 2 [(0, .ref 164), (1, .int v1), (2, .int v2), (3, .int (v3 + 1))] [] M1 P)
    (k3 : (¬ (M.1 164 4) ≤ v3) → (¬ ((v1 >>> (v3 &&& 31)) &&& 1) = 0) → ∀ x1 M1, Q0 x1 M1 → (¬ v2 < x1) → P (some (.int v3)) M1) :
    pg_At S Λ YX4_firstInTime (d + 1) 2 [(0, .ref 164), (1, .int v1), (2, .int v2), (3, .int v3)] [] M P := by
  refine pg_iload_n (pc := 2) (i := 3) (j := 3) (x := v3) dX4_firstInTime_2 rfl rfl ?_
  refine pg_aload_n (pc := 3) (i := 0) (j := 0) (x := 164) dX4_firstInTime_3 rfl rfl ?_
  refine gfX4_24 (pc := 4) rfl h0 dX4_firstInTime_4 ?_
  refine pg_icmp_ge (pc := 7) (tgt := 36) dX4_firstInTime_7 (by decide) (fun c0 => ?_) (fun c0 => ?_)
  · skip
    refine pg_iconst (pc := 36) (v := 0) dX4_firstInTime_36 (by decide) ?_
    exact pg_iret (pc := 37) rfl dX4_firstInTime_37 (k0 c0)
  · skip
    refine pg_iload_n (pc := 10) (i := 1) (j := 1) (x := v1) dX4_firstInTime_10 rfl rfl ?_
    refine pg_iload_n (pc := 11) (i := 3) (j := 3) (x := v3) dX4_firstInTime_11 rfl rfl ?_
    refine pg_ishr (pc := 12) dX4_firstInTime_12 ?_
    refine pg_iconst (pc := 13) (v := 1) dX4_firstInTime_13 (by decide) ?_
    refine pg_iand (pc := 14) dX4_firstInTime_14 ?_
    refine pg_if_eq (pc := 15) (tgt := 30) dX4_firstInTime_15 (by decide) (fun c1 => ?_) (fun c1 => ?_)
    · skip
      refine pg_iinc (pc := 30) (i := 3) (j := 3) (x := v3) (v := v3 + 1) (ls' := [(3, .int (v3 + 1)), (0, .ref 164), (1, .int v1), (2, .int v2)]) dX4_firstInTime_30 rfl rfl (by decide) rfl ?_
      refine pg_goto (pc := 33) (tgt := 2) dX4_firstInTime_33 (by decide) ?_
      refine pg_drop (ks := [1, 2, 3, 0]) (ls' := [(0, .ref 164), (1, .int v1), (2, .int v2), (3, .int (v3 + 1))]) rfl ?_
      exact k1 c0 c1
    · skip
      refine pg_aload_n (pc := 18) (i := 0) (j := 0) (x := 164) dX4_firstInTime_18 rfl rfl ?_
      refine pg_iload_n (pc := 19) (i := 1) (j := 1) (x := v1) dX4_firstInTime_19 rfl rfl ?_
      refine pg_iload_n (pc := 20) (i := 3) (j := 3) (x := v3) dX4_firstInTime_20 rfl rfl ?_
      refine pg_callV (pc := 21) (As := [.int v1, .int v3]) (st := []) okX4_dryIfNext lkX4_66 rfl h0.1 rfl (Nat.le_refl _) (Nat.le_of_ble_eq_true rfl) (e0 c0 c1) dX4_firstInTime_21 (fun r1 M1 w1 => ?_)
      obtain ⟨x1, rfl, w1⟩ := w1
      refine pg_iload_n (pc := 24) (i := 2) (j := 2) (x := v2) dX4_firstInTime_24 rfl rfl ?_
      refine pg_icmp_gt (pc := 25) (tgt := 30) dX4_firstInTime_25 (by decide) (fun c2 => ?_) (fun c2 => ?_)
      · skip
        refine pg_iinc (pc := 30) (i := 3) (j := 3) (x := v3) (v := v3 + 1) (ls' := [(3, .int (v3 + 1)), (0, .ref 164), (1, .int v1), (2, .int v2)]) dX4_firstInTime_30 rfl rfl (by decide) rfl ?_
        refine pg_goto (pc := 33) (tgt := 2) dX4_firstInTime_33 (by decide) ?_
        refine pg_drop (ks := [1, 2, 3, 0]) (ls' := [(0, .ref 164), (1, .int v1), (2, .int v2), (3, .int (v3 + 1))]) rfl ?_
        exact k2 c0 c1 x1 M1 w1 c2
      · skip
        refine pg_iload_n (pc := 28) (i := 3) (j := 3) (x := v3) dX4_firstInTime_28 rfl rfl ?_
        exact pg_iret (pc := 29) rfl dX4_firstInTime_29 (k3 c0 c1 x1 M1 w1 c2)
theorem oX4_firstInTime {d : Nat} {v1 : Int32} {v2 : Int32} (h : pg_At S Λ YX4_firstInTime d 0 [(0, .ref 164), (1, .int v1), (2, .int v2)] [] M P) : pg_Ev S Λ YX4_firstInTime d [.ref 164, .int v1, .int v2] M P := pg_Ev.of (by decide) (by first | decide | exact Nat.le_of_ble_eq_true rfl) h
theorem sX6_clear_0  
    (h0 : pg_isX6 Λ)
    (k0 : pg_At S Λ YX6_clear d 7 [(0, .ref 19), (1, .int 0)] [] (pg_si M 19 5 0) P) :
    pg_At S Λ YX6_clear d 0 [(0, .ref 19)] [] M P := by
  refine pg_aload_n (pc := 0) (i := 0) (j := 0) (x := 19) dX6_clear_0 rfl rfl ?_
  refine pg_iconst (pc := 1) (v := 0) dX6_clear_1 (by decide) ?_
  refine pfX6_32 (pc := 2) rfl h0 dX6_clear_2 ?_
  refine pg_iconst (pc := 5) (v := 0) dX6_clear_5 (by decide) ?_
  refine pg_istore_n (pc := 6) (i := 1) (ls' := [(1, .int 0), (0, .ref 19)]) dX6_clear_6 rfl (by decide) rfl ?_
  refine pg_drop (ks := [1, 0]) (ls' := [(0, .ref 19), (1, .int 0)]) rfl ?_
  exact k0
theorem sX6_clear_7 {v1 : Int32} 
    (h0 : pg_isX6 Λ)
    (k0 : (4 ≤ v1) → P none M)
    (b0 : (¬ 4 ≤ v1) → vp_in v1 4)
    (k1 : (¬ 4 ≤ v1) → pg_At S Λ YX6_clear d 7 [(0, .ref 19), (1, .int (v1 + 1))] [] (pg_si M 23 v1.toNatClampNeg (vp_nar .boolean 0)) P) :
    pg_At S Λ YX6_clear d 7 [(0, .ref 19), (1, .int v1)] [] M P := by
  refine pg_iload_n (pc := 7) (i := 1) (j := 1) (x := v1) dX6_clear_7 rfl rfl ?_
  refine pg_iconst (pc := 8) (v := 4) dX6_clear_8 (by decide) ?_
  refine pg_icmp_ge (pc := 9) (tgt := 25) dX6_clear_9 (by decide) (fun c0 => ?_) (fun c0 => ?_)
  · skip
    exact pg_vret (pc := 25) rfl dX6_clear_25 (k0 c0)
  · skip
    refine pg_aload_n (pc := 12) (i := 0) (j := 0) (x := 19) dX6_clear_12 rfl rfl ?_
    refine gfX6_26 (pc := 13) rfl h0 dX6_clear_13 ?_
    refine pg_iload_n (pc := 16) (i := 1) (j := 1) (x := v1) dX6_clear_16 rfl rfl ?_
    refine pg_iconst (pc := 17) (v := 0) dX6_clear_17 (by decide) ?_
    refine pg_zast (pc := 18) h0.2.2.2.2 (b0 c0) dX6_clear_18 ?_
    refine pg_iinc (pc := 19) (i := 1) (j := 1) (x := v1) (v := v1 + 1) (ls' := [(1, .int (v1 + 1)), (0, .ref 19)]) dX6_clear_19 rfl rfl (by decide) rfl ?_
    refine pg_goto (pc := 22) (tgt := 7) dX6_clear_22 (by decide) ?_
    refine pg_drop (ks := [1, 0]) (ls' := [(0, .ref 19), (1, .int (v1 + 1))]) rfl ?_
    exact k1 c0
theorem oX6_clear {d : Nat}  (h : pg_At S Λ YX6_clear d 0 [(0, .ref 19)] [] M P) : pg_Ev S Λ YX6_clear d [.ref 19] M P := pg_Ev.of (by decide) (by first | decide | exact Nat.le_of_ble_eq_true rfl) h
theorem sX6_draft_0 {v1 : Nat} {Q0 : pg_M → Prop}
    (h0 : pg_isX6 Λ)
    (h1 : pg_isX9 Λ (24 + 5 * (M.1 19 4).toNatClampNeg))
    (b0 : vp_in (M.1 19 4) 17)
    (e0 : pg_Ev S Λ YX9_copyFrom d [.ref (24 + 5 * (M.1 19 4).toNatClampNeg), .ref v1] M (fun r M' => r = none ∧ Q0 M'))
    (k0 : ∀ M1, Q0 M1 → P none M1) :
    pg_At S Λ YX6_draft (d + 1) 0 [(0, .ref 19), (1, .ref v1)] [] M P := by
  refine pg_aload_n (pc := 0) (i := 0) (j := 0) (x := 19) dX6_draft_0 rfl rfl ?_
  refine gfX6_11 (pc := 1) rfl h0 dX6_draft_1 ?_
  refine pg_aload_n (pc := 4) (i := 0) (j := 0) (x := 19) dX6_draft_4 rfl rfl ?_
  refine gfX6_36 (pc := 5) rfl h0 dX6_draft_5 ?_
  refine pg_aldS (pc := 8) h0.2.1 b0 dX6_draft_8 ?_
  refine pg_aload_n (pc := 9) (i := 1) (j := 1) (x := v1) dX6_draft_9 rfl rfl ?_
  refine pg_callV (pc := 10) (As := [.ref v1]) (st := []) okX9_copyFrom lkX6_39 rfl h1.1 rfl (Nat.le_refl _) (Nat.le_of_ble_eq_true rfl) e0 dX6_draft_10 (fun r1 M1 w1 => ?_)
  obtain ⟨rfl, w1⟩ := w1
  exact pg_vret (pc := 13) rfl dX6_draft_13 (k0 M1 w1)
theorem oX6_draft {d : Nat} {v1 : Nat} (h : pg_At S Λ YX6_draft d 0 [(0, .ref 19), (1, .ref v1)] [] M P) : pg_Ev S Λ YX6_draft d [.ref 19, .ref v1] M P := pg_Ev.of (by decide) (by first | decide | exact Nat.le_of_ble_eq_true rfl) h
theorem sX6_keepDraft_0  
    (h0 : pg_isX6 Λ)
    (b0 : ¬ (Int32.ofNat 17) = 0)
    (k0 : ∀ N1, N1 = pg_si (pg_si M 19 4 (((M.1 19 4) + 1) - ((M.1 19 4) + 1) / (Int32.ofNat 17) * (Int32.ofNat 17))) 19 5 (pg_min 16 (((pg_si M 19 4 (((M.1 19 4) + 1) - ((M.1 19 4) + 1) / (Int32.ofNat 17) * (Int32.ofNat 17))).1 19 5) + 1)) → P none N1) :
    pg_At S Λ YX6_keepDraft (d + 1) 0 [(0, .ref 19)] [] M P := by
  refine pg_aload_n (pc := 0) (i := 0) (j := 0) (x := 19) dX6_keepDraft_0 rfl rfl ?_
  refine pg_aload_n (pc := 1) (i := 0) (j := 0) (x := 19) dX6_keepDraft_1 rfl rfl ?_
  refine gfX6_36 (pc := 2) rfl h0 dX6_keepDraft_2 ?_
  refine pg_iconst (pc := 5) (v := 1) dX6_keepDraft_5 (by decide) ?_
  refine pg_iadd (pc := 6) dX6_keepDraft_6 ?_
  refine pg_aload_n (pc := 7) (i := 0) (j := 0) (x := 19) dX6_keepDraft_7 rfl rfl ?_
  refine gfX6_11 (pc := 8) rfl h0 dX6_keepDraft_8 ?_
  refine pg_alen (pc := 11) h0.2.1 4 rfl dX6_keepDraft_11 ?_
  refine pg_irem (pc := 12) dX6_keepDraft_12 b0 ?_
  refine pfX6_36 (pc := 13) rfl h0 dX6_keepDraft_13 ?_
  refine pg_aload_n (pc := 16) (i := 0) (j := 0) (x := 19) dX6_keepDraft_16 rfl rfl ?_
  refine pg_bipush (pc := 17) (v := 16) dX6_keepDraft_17 (by decide) ?_
  refine pg_aload_n (pc := 19) (i := 0) (j := 0) (x := 19) dX6_keepDraft_19 rfl rfl ?_
  refine gfX6_32 (pc := 20) rfl h0 dX6_keepDraft_20 ?_
  refine pg_iconst (pc := 23) (v := 1) dX6_keepDraft_23 (by decide) ?_
  refine pg_iadd (pc := 24) dX6_keepDraft_24 ?_
  refine pg_jmin (pc := 25) (st := [.ref 19]) lkX6_43 (Nat.le_of_ble_eq_true rfl) dX6_keepDraft_25 ?_
  refine pfX6_32 (pc := 28) rfl h0 dX6_keepDraft_28 ?_
  refine pg_named (fun N1 u1 => ?_)
  exact pg_vret (pc := 31) rfl dX6_keepDraft_31 (k0 N1 u1)
theorem oX6_keepDraft {d : Nat}  (h : pg_At S Λ YX6_keepDraft d 0 [(0, .ref 19)] [] M P) : pg_Ev S Λ YX6_keepDraft d [.ref 19] M P := pg_Ev.of (by decide) (by first | decide | exact Nat.le_of_ble_eq_true rfl) h
theorem sX6_stepBack_0 {v1 : Nat} {Q0 : pg_M → Prop}
    (h0 : pg_isX6 Λ)
    (h1 : pg_isX9 Λ v1)
    (b0 : (¬ (M.1 19 5) = 0) → ¬ (Int32.ofNat 17) = 0)
    (b1 : (¬ (M.1 19 5) = 0) → ∀ y1, y1 = (((((pg_si M 19 5 ((M.1 19 5) - 1)).1 19 4) + (Int32.ofNat 17)) - 1) - ((((pg_si M 19 5 ((M.1 19 5) - 1)).1 19 4) + (Int32.ofNat 17)) - 1) / (Int32.ofNat 17) * (Int32.ofNat 17)) → vp_in ((pg_si (pg_si M 19 5 ((M.1 19 5) - 1)) 19 4 y1).1 19 4) 17)
    (e0 : (¬ (M.1 19 5) = 0) → ∀ y1, y1 = (((((pg_si M 19 5 ((M.1 19 5) - 1)).1 19 4) + (Int32.ofNat 17)) - 1) - ((((pg_si M 19 5 ((M.1 19 5) - 1)).1 19 4) + (Int32.ofNat 17)) - 1) / (Int32.ofNat 17) * (Int32.ofNat 17)) → pg_Ev S Λ YX9_copyFrom d [.ref v1, .ref (24 + 5 * ((pg_si (pg_si M 19 5 ((M.1 19 5) - 1)) 19 4 y1).1 19 4).toNatClampNeg)] (pg_si (pg_si M 19 5 ((M.1 19 5) - 1)) 19 4 y1) (fun r M' => r = none ∧ Q0 M'))
    (k0 : (¬ (M.1 19 5) = 0) → ∀ y1, y1 = (((((pg_si M 19 5 ((M.1 19 5) - 1)).1 19 4) + (Int32.ofNat 17)) - 1) - ((((pg_si M 19 5 ((M.1 19 5) - 1)).1 19 4) + (Int32.ofNat 17)) - 1) / (Int32.ofNat 17) * (Int32.ofNat 17)) → ∀ M1, Q0 M1 → P (some (.int 1)) M1)
    (k1 : ((M.1 19 5) = 0) → P (some (.int 0)) M) :
    pg_At S Λ YX6_stepBack (d + 1) 0 [(0, .ref 19), (1, .ref v1)] [] M P := by
  refine pg_aload_n (pc := 0) (i := 0) (j := 0) (x := 19) dX6_stepBack_0 rfl rfl ?_
  refine gfX6_32 (pc := 1) rfl h0 dX6_stepBack_1 ?_
  refine pg_if_ne (pc := 4) (tgt := 9) dX6_stepBack_4 (by decide) (fun c0 => ?_) (fun c0 => ?_)
  · skip
    refine pg_aload_n (pc := 9) (i := 0) (j := 0) (x := 19) dX6_stepBack_9 rfl rfl ?_
    refine pg_dup (pc := 10) dX6_stepBack_10 rfl ?_
    refine gfX6_32 (pc := 11) rfl h0 dX6_stepBack_11 ?_
    refine pg_iconst (pc := 14) (v := 1) dX6_stepBack_14 (by decide) ?_
    refine pg_isub (pc := 15) dX6_stepBack_15 ?_
    refine pfX6_32 (pc := 16) rfl h0 dX6_stepBack_16 ?_
    refine pg_aload_n (pc := 19) (i := 0) (j := 0) (x := 19) dX6_stepBack_19 rfl rfl ?_
    refine pg_aload_n (pc := 20) (i := 0) (j := 0) (x := 19) dX6_stepBack_20 rfl rfl ?_
    refine gfX6_36 (pc := 21) rfl h0 dX6_stepBack_21 ?_
    refine pg_aload_n (pc := 24) (i := 0) (j := 0) (x := 19) dX6_stepBack_24 rfl rfl ?_
    refine gfX6_11 (pc := 25) rfl h0 dX6_stepBack_25 ?_
    refine pg_alen (pc := 28) h0.2.1 4 rfl dX6_stepBack_28 ?_
    refine pg_iadd (pc := 29) dX6_stepBack_29 ?_
    refine pg_iconst (pc := 30) (v := 1) dX6_stepBack_30 (by decide) ?_
    refine pg_isub (pc := 31) dX6_stepBack_31 ?_
    refine pg_aload_n (pc := 32) (i := 0) (j := 0) (x := 19) dX6_stepBack_32 rfl rfl ?_
    refine gfX6_11 (pc := 33) rfl h0 dX6_stepBack_33 ?_
    refine pg_alen (pc := 36) h0.2.1 4 rfl dX6_stepBack_36 ?_
    refine pg_irem (pc := 37) dX6_stepBack_37 (b0 c0) ?_
    refine pg_topi (fun y1 u1 => ?_)
    refine pfX6_36 (pc := 38) rfl h0 dX6_stepBack_38 ?_
    refine pg_aload_n (pc := 41) (i := 1) (j := 1) (x := v1) dX6_stepBack_41 rfl rfl ?_
    refine pg_aload_n (pc := 42) (i := 0) (j := 0) (x := 19) dX6_stepBack_42 rfl rfl ?_
    refine gfX6_11 (pc := 43) rfl h0 dX6_stepBack_43 ?_
    refine pg_aload_n (pc := 46) (i := 0) (j := 0) (x := 19) dX6_stepBack_46 rfl rfl ?_
    refine gfX6_36 (pc := 47) rfl h0 dX6_stepBack_47 ?_
    refine pg_aldS (pc := 50) h0.2.1 (b1 c0 y1 u1) dX6_stepBack_50 ?_
    refine pg_callV (pc := 51) (As := [.ref (24 + 5 * ((pg_si (pg_si M 19 5 ((M.1 19 5) - 1)) 19 4 y1).1 19 4).toNatClampNeg)]) (st := []) okX9_copyFrom lkX6_39 rfl h1.1 rfl (Nat.le_refl _) (Nat.le_of_ble_eq_true rfl) (e0 c0 y1 u1) dX6_stepBack_51 (fun r1 M1 w1 => ?_)
    obtain ⟨rfl, w1⟩ := w1
    refine pg_iconst (pc := 54) (v := 1) dX6_stepBack_54 (by decide) ?_
    exact pg_zret (pc := 55) rfl rfl dX6_stepBack_55 (k0 c0 y1 u1 M1 w1)
  · skip
    refine pg_iconst (pc := 7) (v := 0) dX6_stepBack_7 (by decide) ?_
    exact pg_zret (pc := 8) rfl rfl dX6_stepBack_8 (k1 c0)
theorem oX6_stepBack {d : Nat} {v1 : Nat} (h : pg_At S Λ YX6_stepBack d 0 [(0, .ref 19), (1, .ref v1)] [] M P) : pg_Ev S Λ YX6_stepBack d [.ref 19, .ref v1] M P := pg_Ev.of (by decide) (by first | decide | exact Nat.le_of_ble_eq_true rfl) h
theorem sX6_lay_0 {v1 : Int32} {v2 : Nat} {v3 : Nat} {Q0 : pg_M → Prop} {Q1 : pg_M → Prop}
    (h0 : pg_isX6 Λ)
    (h1 : pg_isX9 Λ (109 + 11 * v1.toNatClampNeg))
    (h2 : pg_isX2 Λ (114 + 11 * v1.toNatClampNeg))
    (b0 : vp_in v1 4)
    (e0 : pg_Ev S Λ YX9_copyFrom d [.ref (109 + 11 * v1.toNatClampNeg), .ref v2] M (fun r M' => r = none ∧ Q0 M'))
    (e1 : ∀ M1, Q0 M1 → pg_Ev S Λ YX2_copyFrom d [.ref (114 + 11 * v1.toNatClampNeg), .ref v3] M1 (fun r M' => r = none ∧ Q1 M'))
    (k0 : ∀ M1, Q0 M1 → ∀ M2, Q1 M2 → P none (pg_si M2 23 v1.toNatClampNeg (vp_nar .boolean 1))) :
    pg_At S Λ YX6_lay (d + 1) 0 [(0, .ref 19), (1, .int v1), (2, .ref v2), (3, .ref v3)] [] M P := by
  refine pg_aload_n (pc := 0) (i := 0) (j := 0) (x := 19) dX6_lay_0 rfl rfl ?_
  refine gfX6_17 (pc := 1) rfl h0 dX6_lay_1 ?_
  refine pg_iload_n (pc := 4) (i := 1) (j := 1) (x := v1) dX6_lay_4 rfl rfl ?_
  refine pg_aldS (pc := 5) h0.2.2.1 b0 dX6_lay_5 ?_
  refine pg_aload_n (pc := 6) (i := 2) (j := 2) (x := v2) dX6_lay_6 rfl rfl ?_
  refine pg_callV (pc := 7) (As := [.ref v2]) (st := []) okX9_copyFrom lkX6_39 rfl h1.1 rfl (Nat.le_refl _) (Nat.le_of_ble_eq_true rfl) e0 dX6_lay_7 (fun r1 M1 w1 => ?_)
  obtain ⟨rfl, w1⟩ := w1
  refine pg_aload_n (pc := 10) (i := 0) (j := 0) (x := 19) dX6_lay_10 rfl rfl ?_
  refine gfX6_22 (pc := 11) rfl h0 dX6_lay_11 ?_
  refine pg_iload_n (pc := 14) (i := 1) (j := 1) (x := v1) dX6_lay_14 rfl rfl ?_
  refine pg_aldF (pc := 15) h0.2.2.2.1 b0 dX6_lay_15 ?_
  refine pg_aload_n (pc := 16) (i := 3) (j := 3) (x := v3) dX6_lay_16 rfl rfl ?_
  refine pg_callV (pc := 17) (As := [.ref v3]) (st := []) okX2_copyFrom lkX6_49 rfl h2.1 rfl (Nat.le_refl _) (Nat.le_of_ble_eq_true rfl) (e1 M1 w1) dX6_lay_17 (fun r2 M2 w2 => ?_)
  obtain ⟨rfl, w2⟩ := w2
  refine pg_aload_n (pc := 20) (i := 0) (j := 0) (x := 19) dX6_lay_20 rfl rfl ?_
  refine gfX6_26 (pc := 21) rfl h0 dX6_lay_21 ?_
  refine pg_iload_n (pc := 24) (i := 1) (j := 1) (x := v1) dX6_lay_24 rfl rfl ?_
  refine pg_iconst (pc := 25) (v := 1) dX6_lay_25 (by decide) ?_
  refine pg_zast (pc := 26) h0.2.2.2.2 b0 dX6_lay_26 ?_
  exact pg_vret (pc := 27) rfl dX6_lay_27 (k0 M1 w1 M2 w2)
theorem oX6_lay {d : Nat} {v1 : Int32} {v2 : Nat} {v3 : Nat} (h : pg_At S Λ YX6_lay d 0 [(0, .ref 19), (1, .int v1), (2, .ref v2), (3, .ref v3)] [] M P) : pg_Ev S Λ YX6_lay d [.ref 19, .int v1, .ref v2, .ref v3] M P := pg_Ev.of (by decide) (by first | decide | exact Nat.le_of_ble_eq_true rfl) h
theorem sX6_goBack_0 {v1 : Int32} {v2 : Nat} {v3 : Nat} {Q0 : pg_M → Prop} {Q1 : pg_M → Prop}
    (h0 : pg_isX6 Λ)
    (h1 : pg_isX9 Λ v2)
    (h2 : pg_isX2 Λ v3)
    (b0 : vp_in v1 4)
    (e0 : (¬ (M.1 23 v1.toNatClampNeg) = 0) → pg_Ev S Λ YX9_copyFrom d [.ref v2, .ref (109 + 11 * v1.toNatClampNeg)] M (fun r M' => r = none ∧ Q0 M'))
    (e1 : (¬ (M.1 23 v1.toNatClampNeg) = 0) → ∀ M1, Q0 M1 → pg_Ev S Λ YX2_copyFrom d [.ref v3, .ref (114 + 11 * v1.toNatClampNeg)] M1 (fun r M' => r = none ∧ Q1 M'))
    (k0 : (¬ (M.1 23 v1.toNatClampNeg) = 0) → ∀ M1, Q0 M1 → ∀ M2, Q1 M2 → P (some (.int 1)) (pg_si M2 19 5 0))
    (k1 : ((M.1 23 v1.toNatClampNeg) = 0) → P (some (.int 0)) M) :
    pg_At S Λ YX6_goBack (d + 1) 0 [(0, .ref 19), (1, .int v1), (2, .ref v2), (3, .ref v3)] [] M P := by
  refine pg_aload_n (pc := 0) (i := 0) (j := 0) (x := 19) dX6_goBack_0 rfl rfl ?_
  refine gfX6_26 (pc := 1) rfl h0 dX6_goBack_1 ?_
  refine pg_iload_n (pc := 4) (i := 1) (j := 1) (x := v1) dX6_goBack_4 rfl rfl ?_
  refine pg_zald (pc := 5) h0.2.2.2.2 b0 dX6_goBack_5 ?_
  refine pg_if_ne (pc := 6) (tgt := 11) dX6_goBack_6 (by decide) (fun c0 => ?_) (fun c0 => ?_)
  · skip
    refine pg_aload_n (pc := 11) (i := 2) (j := 2) (x := v2) dX6_goBack_11 rfl rfl ?_
    refine pg_aload_n (pc := 12) (i := 0) (j := 0) (x := 19) dX6_goBack_12 rfl rfl ?_
    refine gfX6_17 (pc := 13) rfl h0 dX6_goBack_13 ?_
    refine pg_iload_n (pc := 16) (i := 1) (j := 1) (x := v1) dX6_goBack_16 rfl rfl ?_
    refine pg_aldS (pc := 17) h0.2.2.1 b0 dX6_goBack_17 ?_
    refine pg_callV (pc := 18) (As := [.ref (109 + 11 * v1.toNatClampNeg)]) (st := []) okX9_copyFrom lkX6_39 rfl h1.1 rfl (Nat.le_refl _) (Nat.le_of_ble_eq_true rfl) (e0 c0) dX6_goBack_18 (fun r1 M1 w1 => ?_)
    obtain ⟨rfl, w1⟩ := w1
    refine pg_aload_n (pc := 21) (i := 3) (j := 3) (x := v3) dX6_goBack_21 rfl rfl ?_
    refine pg_aload_n (pc := 22) (i := 0) (j := 0) (x := 19) dX6_goBack_22 rfl rfl ?_
    refine gfX6_22 (pc := 23) rfl h0 dX6_goBack_23 ?_
    refine pg_iload_n (pc := 26) (i := 1) (j := 1) (x := v1) dX6_goBack_26 rfl rfl ?_
    refine pg_aldF (pc := 27) h0.2.2.2.1 b0 dX6_goBack_27 ?_
    refine pg_callV (pc := 28) (As := [.ref (114 + 11 * v1.toNatClampNeg)]) (st := []) okX2_copyFrom lkX6_49 rfl h2.1 rfl (Nat.le_refl _) (Nat.le_of_ble_eq_true rfl) (e1 c0 M1 w1) dX6_goBack_28 (fun r2 M2 w2 => ?_)
    obtain ⟨rfl, w2⟩ := w2
    refine pg_aload_n (pc := 31) (i := 0) (j := 0) (x := 19) dX6_goBack_31 rfl rfl ?_
    refine pg_iconst (pc := 32) (v := 0) dX6_goBack_32 (by decide) ?_
    refine pfX6_32 (pc := 33) rfl h0 dX6_goBack_33 ?_
    refine pg_iconst (pc := 36) (v := 1) dX6_goBack_36 (by decide) ?_
    exact pg_zret (pc := 37) rfl rfl dX6_goBack_37 (k0 c0 M1 w1 M2 w2)
  · skip
    refine pg_iconst (pc := 9) (v := 0) dX6_goBack_9 (by decide) ?_
    exact pg_zret (pc := 10) rfl rfl dX6_goBack_10 (k1 c0)
theorem oX6_goBack {d : Nat} {v1 : Int32} {v2 : Nat} {v3 : Nat} (h : pg_At S Λ YX6_goBack d 0 [(0, .ref 19), (1, .int v1), (2, .ref v2), (3, .ref v3)] [] M P) : pg_Ev S Λ YX6_goBack d [.ref 19, .int v1, .ref v2, .ref v3] M P := pg_Ev.of (by decide) (by first | decide | exact Nat.le_of_ble_eq_true rfl) h

end PGS

