section PGS
variable {S : pg_S} {Λ : pg_L} {d : Nat} {M : pg_M} {P : Option Value → pg_M → Prop}

theorem sX11_readOnce_0  {Q0 : Int32 → pg_M → Prop} {Q1 : Int32 → pg_M → Prop} {Q2 : Int32 → pg_M → Prop}
    (h0 : pg_isX11 Λ)
    (e0 : pg_Ev S Λ YX11_isWord d [.ref 207, .int 9] M (fun r M' => ∃ x, r = some (.int x) ∧ Q0 x M'))
    (e1 : ∀ x1 M1, Q0 x1 M1 → (x1 = 0) → pg_Ev S Λ YX11_isWord d [.ref 207, .int 10] M1 (fun r M' => ∃ x, r = some (.int x) ∧ Q1 x M'))
    (e2 : ∀ x1 M1, Q0 x1 M1 → (x1 = 0) → ∀ x2 M2, Q1 x2 M2 → (x2 = 0) → pg_Ev S Λ YX11_wordHere d [.ref 207, .int 4, .int 4] M2 (fun r M' => ∃ x, r = some (.int x) ∧ Q2 x M'))
    (k0 : ∀ x1 M1, Q0 x1 M1 → (x1 = 0) → ∀ x2 M2, Q1 x2 M2 → (x2 = 0) → ∀ x3 M3, Q2 x3 M3 → pg_At S Λ YX11_readOnce (d + 1) 32 [(0, .ref 207)] [.int x3] M3 P)
    (k1 : ∀ x1 M1, Q0 x1 M1 → (x1 = 0) → ∀ x2 M2, Q1 x2 M2 → (¬ x2 = 0) → pg_At S Λ YX11_readOnce (d + 1) 32 [(0, .ref 207)] [.int 5] M2 P)
    (k2 : ∀ x1 M1, Q0 x1 M1 → (¬ x1 = 0) → pg_At S Λ YX11_readOnce (d + 1) 32 [(0, .ref 207)] [.int 4] M1 P) :
    pg_At S Λ YX11_readOnce (d + 1) 0 [(0, .ref 207)] [] M P := by
  refine pg_aload_n (pc := 0) (i := 0) (j := 0) (x := 207) dX11_readOnce_0 rfl rfl ?_
  refine pg_bipush (pc := 1) (v := 9) dX11_readOnce_1 (by decide) ?_
  refine pg_callV (pc := 3) (As := [.int 9]) (st := []) okX11_isWord lkX11_186 rfl h0.1 rfl (Nat.le_refl _) (Nat.le_of_ble_eq_true rfl) e0 dX11_readOnce_3 (fun r1 M1 w1 => ?_)
  obtain ⟨x1, rfl, w1⟩ := w1
  refine pg_if_eq (pc := 6) (tgt := 13) dX11_readOnce_6 (by decide) (fun c0 => ?_) (fun c0 => ?_)
  · skip
    refine pg_aload_n (pc := 13) (i := 0) (j := 0) (x := 207) dX11_readOnce_13 rfl rfl ?_
    refine pg_bipush (pc := 14) (v := 10) dX11_readOnce_14 (by decide) ?_
    refine pg_callV (pc := 16) (As := [.int 10]) (st := []) okX11_isWord lkX11_186 rfl h0.1 rfl (Nat.le_refl _) (Nat.le_of_ble_eq_true rfl) (e1 x1 M1 w1 c0) dX11_readOnce_16 (fun r2 M2 w2 => ?_)
    obtain ⟨x2, rfl, w2⟩ := w2
    refine pg_if_eq (pc := 19) (tgt := 26) dX11_readOnce_19 (by decide) (fun c1 => ?_) (fun c1 => ?_)
    · skip
      refine pg_aload_n (pc := 26) (i := 0) (j := 0) (x := 207) dX11_readOnce_26 rfl rfl ?_
      refine pg_iconst (pc := 27) (v := 4) dX11_readOnce_27 (by decide) ?_
      refine pg_iconst (pc := 28) (v := 4) dX11_readOnce_28 (by decide) ?_
      refine pg_callV (pc := 29) (As := [.int 4, .int 4]) (st := []) okX11_wordHere lkX11_199 rfl h0.1 rfl (Nat.le_refl _) (Nat.le_of_ble_eq_true rfl) (e2 x1 M1 w1 c0 x2 M2 w2 c1) dX11_readOnce_29 (fun r3 M3 w3 => ?_)
      obtain ⟨x3, rfl, w3⟩ := w3
      exact k0 x1 M1 w1 c0 x2 M2 w2 c1 x3 M3 w3
    · skip
      refine pg_iconst (pc := 22) (v := 5) dX11_readOnce_22 (by decide) ?_
      refine pg_goto (pc := 23) (tgt := 32) dX11_readOnce_23 (by decide) ?_
      exact k1 x1 M1 w1 c0 x2 M2 w2 c1
  · skip
    refine pg_iconst (pc := 9) (v := 4) dX11_readOnce_9 (by decide) ?_
    refine pg_goto (pc := 10) (tgt := 32) dX11_readOnce_10 (by decide) ?_
    exact k2 x1 M1 w1 c0
theorem sX11_readOnce_32 {s0 : Int32} {Q0 : pg_M → Prop} {Q1 : pg_M → Prop}
    (h0 : pg_isX11 Λ)
    (k0 : (0 ≤ s0) → (¬ (((M.1 207 18) >>> (s0 &&& 31)) &&& 1) = 1) → pg_At S Λ YX11_readOnce (d + 1) 62 [(0, .ref 207), (1, .int s0)] [] M P)
    (e0 : (0 ≤ s0) → ((((M.1 207 18) >>> (s0 &&& 31)) &&& 1) = 1) → pg_Ev S Λ YX11_wrong d [.ref 207, .int 3] M (fun r M' => r = none ∧ Q0 M'))
    (k1 : (0 ≤ s0) → ((((M.1 207 18) >>> (s0 &&& 31)) &&& 1) = 1) → ∀ M1, Q0 M1 → pg_At S Λ YX11_readOnce (d + 1) 62 [(0, .ref 207), (1, .int s0)] [] M1 P)
    (e1 : (¬ 0 ≤ s0) → pg_Ev S Λ YX11_wrong d [.ref 207, .int 1] M (fun r M' => r = none ∧ Q1 M'))
    (k2 : (¬ 0 ≤ s0) → ∀ M2, Q1 M2 → pg_At S Λ YX11_readOnce (d + 1) 62 [(0, .ref 207), (1, .int s0)] [] M2 P) :
    pg_At S Λ YX11_readOnce (d + 1) 32 [(0, .ref 207)] [.int s0] M P := by
  refine pg_istore_n (pc := 32) (i := 1) (ls' := [(1, .int s0), (0, .ref 207)]) dX11_readOnce_32 rfl (by decide) rfl ?_
  refine pg_iload_n (pc := 33) (i := 1) (j := 0) (x := s0) dX11_readOnce_33 rfl rfl ?_
  refine pg_if_ge (pc := 34) (tgt := 45) dX11_readOnce_34 (by decide) (fun c0 => ?_) (fun c0 => ?_)
  · skip
    refine pg_aload_n (pc := 45) (i := 0) (j := 1) (x := 207) dX11_readOnce_45 rfl rfl ?_
    refine gfX11_225 (pc := 46) rfl h0 dX11_readOnce_46 ?_
    refine pg_iload_n (pc := 49) (i := 1) (j := 0) (x := s0) dX11_readOnce_49 rfl rfl ?_
    refine pg_ishr (pc := 50) dX11_readOnce_50 ?_
    refine pg_iconst (pc := 51) (v := 1) dX11_readOnce_51 (by decide) ?_
    refine pg_iand (pc := 52) dX11_readOnce_52 ?_
    refine pg_iconst (pc := 53) (v := 1) dX11_readOnce_53 (by decide) ?_
    refine pg_icmp_ne (pc := 54) (tgt := 62) dX11_readOnce_54 (by decide) (fun c1 => ?_) (fun c1 => ?_)
    · skip
      refine pg_drop (ks := [1, 0]) (ls' := [(0, .ref 207), (1, .int s0)]) rfl ?_
      exact k0 c0 c1
    · skip
      refine pg_aload_n (pc := 57) (i := 0) (j := 1) (x := 207) dX11_readOnce_57 rfl rfl ?_
      refine pg_iconst (pc := 58) (v := 3) dX11_readOnce_58 (by decide) ?_
      refine pg_callV (pc := 59) (As := [.int 3]) (st := []) okX11_wrong lkX11_183 rfl h0.1 rfl (Nat.le_refl _) (Nat.le_of_ble_eq_true rfl) (e0 c0 c1) dX11_readOnce_59 (fun r1 M1 w1 => ?_)
      obtain ⟨rfl, w1⟩ := w1
      refine pg_drop (ks := [1, 0]) (ls' := [(0, .ref 207), (1, .int s0)]) rfl ?_
      exact k1 c0 c1 M1 w1
  · skip
    refine pg_aload_n (pc := 37) (i := 0) (j := 1) (x := 207) dX11_readOnce_37 rfl rfl ?_
    refine pg_iconst (pc := 38) (v := 1) dX11_readOnce_38 (by decide) ?_
    refine pg_callV (pc := 39) (As := [.int 1]) (st := []) okX11_wrong lkX11_183 rfl h0.1 rfl (Nat.le_refl _) (Nat.le_of_ble_eq_true rfl) (e1 c0) dX11_readOnce_39 (fun r2 M2 w2 => ?_)
    obtain ⟨rfl, w2⟩ := w2
    refine pg_goto (pc := 42) (tgt := 62) dX11_readOnce_42 (by decide) ?_
    refine pg_drop (ks := [1, 0]) (ls' := [(0, .ref 207), (1, .int s0)]) rfl ?_
    exact k2 c0 M2 w2
theorem sX11_readOnce_62 {v1 : Int32} {Q0 : pg_M → Prop} {Q1 : pg_M → Prop} {Q2 : Int32 → pg_M → Prop} {Q3 : Int32 → pg_M → Prop} {Q4 : Int32 → pg_M → Prop} {Q5 : Int32 → pg_M → Prop}
    (h0 : pg_isX11 Λ)
    (b0 : ((M.1 207 8) ≤ 0) → ∀ N1, N1 = pg_si (pg_si M 207 18 ((M.1 207 18) ||| ((1 : Int32) <<< (v1 &&& 31)))) 207 7 (((pg_si M 207 18 ((M.1 207 18) ||| ((1 : Int32) <<< (v1 &&& 31)))).1 207 7) + 1) → (¬ v1 = 0) → (¬ v1 = 1) → (¬ v1 = 2) → (¬ v1 = 3) → vp_in ((106 + v1) - 4) 200)
    (e0 : ((M.1 207 8) ≤ 0) → ∀ N1, N1 = pg_si (pg_si M 207 18 ((M.1 207 18) ||| ((1 : Int32) <<< (v1 &&& 31)))) 207 7 (((pg_si M 207 18 ((M.1 207 18) ||| ((1 : Int32) <<< (v1 &&& 31)))).1 207 7) + 1) → (¬ v1 = 0) → (¬ v1 = 1) → (¬ v1 = 2) → (¬ v1 = 3) → pg_Ev S Λ YX11_all d [.ref 207, .int 0] (pg_si N1 213 ((106 + v1) - 4).toNatClampNeg (N1.1 207 13)) (fun r M' => r = none ∧ Q0 M'))
    (e1 : ((M.1 207 8) ≤ 0) → ∀ N1, N1 = pg_si (pg_si M 207 18 ((M.1 207 18) ||| ((1 : Int32) <<< (v1 &&& 31)))) 207 7 (((pg_si M 207 18 ((M.1 207 18) ||| ((1 : Int32) <<< (v1 &&& 31)))).1 207 7) + 1) → (¬ v1 = 0) → (¬ v1 = 1) → (¬ v1 = 2) → (¬ v1 = 3) → ∀ M1, Q0 M1 → pg_Ev S Λ YX11_emit d [.ref 207, .int 0, .int 0] M1 (fun r M' => r = none ∧ Q1 M'))
    (k0 : ((M.1 207 8) ≤ 0) → ∀ N1, N1 = pg_si (pg_si M 207 18 ((M.1 207 18) ||| ((1 : Int32) <<< (v1 &&& 31)))) 207 7 (((pg_si M 207 18 ((M.1 207 18) ||| ((1 : Int32) <<< (v1 &&& 31)))).1 207 7) + 1) → (¬ v1 = 0) → (¬ v1 = 1) → (¬ v1 = 2) → (¬ v1 = 3) → ∀ M1, Q0 M1 → ∀ M2, Q1 M2 → P none M2)
    (e2 : ((M.1 207 8) ≤ 0) → ∀ N1, N1 = pg_si (pg_si M 207 18 ((M.1 207 18) ||| ((1 : Int32) <<< (v1 &&& 31)))) 207 7 (((pg_si M 207 18 ((M.1 207 18) ||| ((1 : Int32) <<< (v1 &&& 31)))).1 207 7) + 1) → (¬ v1 = 0) → (¬ v1 = 1) → (¬ v1 = 2) → (v1 = 3) → pg_Ev S Λ YX11_takeNumber d [.ref 207, .int 0, .int 10] N1 (fun r M' => ∃ x, r = some (.int x) ∧ Q2 x M'))
    (k1 : ((M.1 207 8) ≤ 0) → ∀ N1, N1 = pg_si (pg_si M 207 18 ((M.1 207 18) ||| ((1 : Int32) <<< (v1 &&& 31)))) 207 7 (((pg_si M 207 18 ((M.1 207 18) ||| ((1 : Int32) <<< (v1 &&& 31)))).1 207 7) + 1) → (¬ v1 = 0) → (¬ v1 = 1) → (¬ v1 = 2) → (v1 = 3) → ∀ x3 M3, Q2 x3 M3 → P none (pg_si M3 213 (104 : Int32).toNatClampNeg x3))
    (e3 : ((M.1 207 8) ≤ 0) → ∀ N1, N1 = pg_si (pg_si M 207 18 ((M.1 207 18) ||| ((1 : Int32) <<< (v1 &&& 31)))) 207 7 (((pg_si M 207 18 ((M.1 207 18) ||| ((1 : Int32) <<< (v1 &&& 31)))).1 207 7) + 1) → (¬ v1 = 0) → (¬ v1 = 1) → (v1 = 2) → pg_Ev S Λ YX11_takeNumber d [.ref 207, .int 1, .int 60] N1 (fun r M' => ∃ x, r = some (.int x) ∧ Q3 x M'))
    (k2 : ((M.1 207 8) ≤ 0) → ∀ N1, N1 = pg_si (pg_si M 207 18 ((M.1 207 18) ||| ((1 : Int32) <<< (v1 &&& 31)))) 207 7 (((pg_si M 207 18 ((M.1 207 18) ||| ((1 : Int32) <<< (v1 &&& 31)))).1 207 7) + 1) → (¬ v1 = 0) → (¬ v1 = 1) → (v1 = 2) → ∀ x4 M4, Q3 x4 M4 → P none (pg_si M4 213 (103 : Int32).toNatClampNeg x4))
    (e4 : ((M.1 207 8) ≤ 0) → ∀ N1, N1 = pg_si (pg_si M 207 18 ((M.1 207 18) ||| ((1 : Int32) <<< (v1 &&& 31)))) 207 7 (((pg_si M 207 18 ((M.1 207 18) ||| ((1 : Int32) <<< (v1 &&& 31)))).1 207 7) + 1) → (¬ v1 = 0) → (v1 = 1) → pg_Ev S Λ YX11_readRow d [.ref 207, .int 76, .int 12, .int 0] N1 (fun r M' => ∃ x, r = some (.int x) ∧ Q4 x M'))
    (k3 : ((M.1 207 8) ≤ 0) → ∀ N1, N1 = pg_si (pg_si M 207 18 ((M.1 207 18) ||| ((1 : Int32) <<< (v1 &&& 31)))) 207 7 (((pg_si M 207 18 ((M.1 207 18) ||| ((1 : Int32) <<< (v1 &&& 31)))).1 207 7) + 1) → (¬ v1 = 0) → (v1 = 1) → ∀ x5 M5, Q4 x5 M5 → P none (pg_si M5 213 (102 : Int32).toNatClampNeg x5))
    (e5 : ((M.1 207 8) ≤ 0) → ∀ N1, N1 = pg_si (pg_si M 207 18 ((M.1 207 18) ||| ((1 : Int32) <<< (v1 &&& 31)))) 207 7 (((pg_si M 207 18 ((M.1 207 18) ||| ((1 : Int32) <<< (v1 &&& 31)))).1 207 7) + 1) → (v1 = 0) → pg_Ev S Λ YX11_readRow d [.ref 207, .int 68, .int 8, .int 1] N1 (fun r M' => ∃ x, r = some (.int x) ∧ Q5 x M'))
    (k4 : ((M.1 207 8) ≤ 0) → ∀ N1, N1 = pg_si (pg_si M 207 18 ((M.1 207 18) ||| ((1 : Int32) <<< (v1 &&& 31)))) 207 7 (((pg_si M 207 18 ((M.1 207 18) ||| ((1 : Int32) <<< (v1 &&& 31)))).1 207 7) + 1) → (v1 = 0) → ∀ x6 M6, Q5 x6 M6 → P none (pg_si M6 213 (101 : Int32).toNatClampNeg x6))
    (k5 : (¬ (M.1 207 8) ≤ 0) → P none M) :
    pg_At S Λ YX11_readOnce (d + 1) 62 [(0, .ref 207), (1, .int v1)] [] M P := by
  refine pg_aload_n (pc := 62) (i := 0) (j := 0) (x := 207) dX11_readOnce_62 rfl rfl ?_
  refine gfX11_177 (pc := 63) rfl h0 dX11_readOnce_63 ?_
  refine pg_if_le (pc := 66) (tgt := 70) dX11_readOnce_66 (by decide) (fun c0 => ?_) (fun c0 => ?_)
  · skip
    refine pg_aload_n (pc := 70) (i := 0) (j := 0) (x := 207) dX11_readOnce_70 rfl rfl ?_
    refine pg_dup (pc := 71) dX11_readOnce_71 rfl ?_
    refine gfX11_225 (pc := 72) rfl h0 dX11_readOnce_72 ?_
    refine pg_iconst (pc := 75) (v := 1) dX11_readOnce_75 (by decide) ?_
    refine pg_iload_n (pc := 76) (i := 1) (j := 1) (x := v1) dX11_readOnce_76 rfl rfl ?_
    refine pg_ishl (pc := 77) dX11_readOnce_77 ?_
    refine pg_ior (pc := 78) dX11_readOnce_78 ?_
    refine pfX11_225 (pc := 79) rfl h0 dX11_readOnce_79 ?_
    refine pg_aload_n (pc := 82) (i := 0) (j := 0) (x := 207) dX11_readOnce_82 rfl rfl ?_
    refine pg_dup (pc := 83) dX11_readOnce_83 rfl ?_
    refine gfX11_174 (pc := 84) rfl h0 dX11_readOnce_84 ?_
    refine pg_iconst (pc := 87) (v := 1) dX11_readOnce_87 (by decide) ?_
    refine pg_iadd (pc := 88) dX11_readOnce_88 ?_
    refine pfX11_174 (pc := 89) rfl h0 dX11_readOnce_89 ?_
    refine pg_named (fun N1 u1 => ?_)
    refine pg_iload_n (pc := 92) (i := 1) (j := 1) (x := v1) dX11_readOnce_92 rfl rfl ?_
    refine pg_if_ne (pc := 93) (tgt := 115) dX11_readOnce_93 (by decide) (fun c1 => ?_) (fun c1 => ?_)
    · skip
      refine pg_iload_n (pc := 115) (i := 1) (j := 1) (x := v1) dX11_readOnce_115 rfl rfl ?_
      refine pg_iconst (pc := 116) (v := 1) dX11_readOnce_116 (by decide) ?_
      refine pg_icmp_ne (pc := 117) (tgt := 139) dX11_readOnce_117 (by decide) (fun c2 => ?_) (fun c2 => ?_)
      · skip
        refine pg_iload_n (pc := 139) (i := 1) (j := 1) (x := v1) dX11_readOnce_139 rfl rfl ?_
        refine pg_iconst (pc := 140) (v := 2) dX11_readOnce_140 (by decide) ?_
        refine pg_icmp_ne (pc := 141) (tgt := 161) dX11_readOnce_141 (by decide) (fun c3 => ?_) (fun c3 => ?_)
        · skip
          refine pg_iload_n (pc := 161) (i := 1) (j := 1) (x := v1) dX11_readOnce_161 rfl rfl ?_
          refine pg_iconst (pc := 162) (v := 3) dX11_readOnce_162 (by decide) ?_
          refine pg_icmp_ne (pc := 163) (tgt := 183) dX11_readOnce_163 (by decide) (fun c4 => ?_) (fun c4 => ?_)
          · skip
            refine pg_aload_n (pc := 183) (i := 0) (j := 0) (x := 207) dX11_readOnce_183 rfl rfl ?_
            refine gfX11_89 (pc := 184) rfl h0 dX11_readOnce_184 ?_
            refine pg_bipush (pc := 187) (v := 106) dX11_readOnce_187 (by decide) ?_
            refine pg_iload_n (pc := 189) (i := 1) (j := 1) (x := v1) dX11_readOnce_189 rfl rfl ?_
            refine pg_iadd (pc := 190) dX11_readOnce_190 ?_
            refine pg_iconst (pc := 191) (v := 4) dX11_readOnce_191 (by decide) ?_
            refine pg_isub (pc := 192) dX11_readOnce_192 ?_
            refine pg_aload_n (pc := 193) (i := 0) (j := 0) (x := 207) dX11_readOnce_193 rfl rfl ?_
            refine gfX11_222 (pc := 194) rfl h0 dX11_readOnce_194 ?_
            refine pg_iast (pc := 197) h0.2.2.2.2.2.2.1 (b0 c0 N1 u1 c1 c2 c3 c4) dX11_readOnce_197 ?_
            refine pg_aload_n (pc := 198) (i := 0) (j := 0) (x := 207) dX11_readOnce_198 rfl rfl ?_
            refine pg_iconst (pc := 199) (v := 0) dX11_readOnce_199 (by decide) ?_
            refine pg_callV (pc := 200) (As := [.int 0]) (st := []) okX11_all lkX11_253 rfl h0.1 rfl (Nat.le_refl _) (Nat.le_of_ble_eq_true rfl) (e0 c0 N1 u1 c1 c2 c3 c4) dX11_readOnce_200 (fun r1 M1 w1 => ?_)
            obtain ⟨rfl, w1⟩ := w1
            refine pg_aload_n (pc := 203) (i := 0) (j := 0) (x := 207) dX11_readOnce_203 rfl rfl ?_
            refine pg_iconst (pc := 204) (v := 0) dX11_readOnce_204 (by decide) ?_
            refine pg_iconst (pc := 205) (v := 0) dX11_readOnce_205 (by decide) ?_
            refine pg_callV (pc := 206) (As := [.int 0, .int 0]) (st := []) okX11_emit lkX11_256 rfl h0.1 rfl (Nat.le_refl _) (Nat.le_of_ble_eq_true rfl) (e1 c0 N1 u1 c1 c2 c3 c4 M1 w1) dX11_readOnce_206 (fun r2 M2 w2 => ?_)
            obtain ⟨rfl, w2⟩ := w2
            exact pg_vret (pc := 209) rfl dX11_readOnce_209 (k0 c0 N1 u1 c1 c2 c3 c4 M1 w1 M2 w2)
          · skip
            refine pg_aload_n (pc := 166) (i := 0) (j := 0) (x := 207) dX11_readOnce_166 rfl rfl ?_
            refine gfX11_89 (pc := 167) rfl h0 dX11_readOnce_167 ?_
            refine pg_bipush (pc := 170) (v := 104) dX11_readOnce_170 (by decide) ?_
            refine pg_aload_n (pc := 172) (i := 0) (j := 0) (x := 207) dX11_readOnce_172 rfl rfl ?_
            refine pg_iconst (pc := 173) (v := 0) dX11_readOnce_173 (by decide) ?_
            refine pg_bipush (pc := 174) (v := 10) dX11_readOnce_174 (by decide) ?_
            refine pg_callV (pc := 176) (As := [.int 0, .int 10]) (st := [.int 104, .ref 213]) okX11_takeNumber lkX11_195 rfl h0.1 rfl (Nat.le_refl _) (Nat.le_of_ble_eq_true rfl) (e2 c0 N1 u1 c1 c2 c3 c4) dX11_readOnce_176 (fun r3 M3 w3 => ?_)
            obtain ⟨x3, rfl, w3⟩ := w3
            refine pg_iast (pc := 179) h0.2.2.2.2.2.2.1 (by unfold vp_in; decide) dX11_readOnce_179 ?_
            refine pg_goto (pc := 180) (tgt := 209) dX11_readOnce_180 (by decide) ?_
            exact pg_vret (pc := 209) rfl dX11_readOnce_209 (k1 c0 N1 u1 c1 c2 c3 c4 x3 M3 w3)
        · skip
          refine pg_aload_n (pc := 144) (i := 0) (j := 0) (x := 207) dX11_readOnce_144 rfl rfl ?_
          refine gfX11_89 (pc := 145) rfl h0 dX11_readOnce_145 ?_
          refine pg_bipush (pc := 148) (v := 103) dX11_readOnce_148 (by decide) ?_
          refine pg_aload_n (pc := 150) (i := 0) (j := 0) (x := 207) dX11_readOnce_150 rfl rfl ?_
          refine pg_iconst (pc := 151) (v := 1) dX11_readOnce_151 (by decide) ?_
          refine pg_bipush (pc := 152) (v := 60) dX11_readOnce_152 (by decide) ?_
          refine pg_callV (pc := 154) (As := [.int 1, .int 60]) (st := [.int 103, .ref 213]) okX11_takeNumber lkX11_195 rfl h0.1 rfl (Nat.le_refl _) (Nat.le_of_ble_eq_true rfl) (e3 c0 N1 u1 c1 c2 c3) dX11_readOnce_154 (fun r4 M4 w4 => ?_)
          obtain ⟨x4, rfl, w4⟩ := w4
          refine pg_iast (pc := 157) h0.2.2.2.2.2.2.1 (by unfold vp_in; decide) dX11_readOnce_157 ?_
          refine pg_goto (pc := 158) (tgt := 209) dX11_readOnce_158 (by decide) ?_
          exact pg_vret (pc := 209) rfl dX11_readOnce_209 (k2 c0 N1 u1 c1 c2 c3 x4 M4 w4)
      · skip
        refine pg_aload_n (pc := 120) (i := 0) (j := 0) (x := 207) dX11_readOnce_120 rfl rfl ?_
        refine gfX11_89 (pc := 121) rfl h0 dX11_readOnce_121 ?_
        refine pg_bipush (pc := 124) (v := 102) dX11_readOnce_124 (by decide) ?_
        refine pg_aload_n (pc := 126) (i := 0) (j := 0) (x := 207) dX11_readOnce_126 rfl rfl ?_
        refine pg_bipush (pc := 127) (v := 76) dX11_readOnce_127 (by decide) ?_
        refine pg_bipush (pc := 129) (v := 12) dX11_readOnce_129 (by decide) ?_
        refine pg_iconst (pc := 131) (v := 0) dX11_readOnce_131 (by decide) ?_
        refine pg_callV (pc := 132) (As := [.int 76, .int 12, .int 0]) (st := [.int 102, .ref 213]) okX11_readRow lkX11_250 rfl h0.1 rfl (Nat.le_refl _) (Nat.le_of_ble_eq_true rfl) (e4 c0 N1 u1 c1 c2) dX11_readOnce_132 (fun r5 M5 w5 => ?_)
        obtain ⟨x5, rfl, w5⟩ := w5
        refine pg_iast (pc := 135) h0.2.2.2.2.2.2.1 (by unfold vp_in; decide) dX11_readOnce_135 ?_
        refine pg_goto (pc := 136) (tgt := 209) dX11_readOnce_136 (by decide) ?_
        exact pg_vret (pc := 209) rfl dX11_readOnce_209 (k3 c0 N1 u1 c1 c2 x5 M5 w5)
    · skip
      refine pg_aload_n (pc := 96) (i := 0) (j := 0) (x := 207) dX11_readOnce_96 rfl rfl ?_
      refine gfX11_89 (pc := 97) rfl h0 dX11_readOnce_97 ?_
      refine pg_bipush (pc := 100) (v := 101) dX11_readOnce_100 (by decide) ?_
      refine pg_aload_n (pc := 102) (i := 0) (j := 0) (x := 207) dX11_readOnce_102 rfl rfl ?_
      refine pg_bipush (pc := 103) (v := 68) dX11_readOnce_103 (by decide) ?_
      refine pg_bipush (pc := 105) (v := 8) dX11_readOnce_105 (by decide) ?_
      refine pg_iconst (pc := 107) (v := 1) dX11_readOnce_107 (by decide) ?_
      refine pg_callV (pc := 108) (As := [.int 68, .int 8, .int 1]) (st := [.int 101, .ref 213]) okX11_readRow lkX11_250 rfl h0.1 rfl (Nat.le_refl _) (Nat.le_of_ble_eq_true rfl) (e5 c0 N1 u1 c1) dX11_readOnce_108 (fun r6 M6 w6 => ?_)
      obtain ⟨x6, rfl, w6⟩ := w6
      refine pg_iast (pc := 111) h0.2.2.2.2.2.2.1 (by unfold vp_in; decide) dX11_readOnce_111 ?_
      refine pg_goto (pc := 112) (tgt := 209) dX11_readOnce_112 (by decide) ?_
      exact pg_vret (pc := 209) rfl dX11_readOnce_209 (k4 c0 N1 u1 c1 x6 M6 w6)
  · skip
    exact pg_vret (pc := 69) rfl dX11_readOnce_69 (k5 c0)
theorem oX11_readOnce {d : Nat}  (h : pg_At S Λ YX11_readOnce d 0 [(0, .ref 207)] [] M P) : pg_Ev S Λ YX11_readOnce d [.ref 207] M P := pg_Ev.of (by decide) (by first | decide | exact Nat.le_of_ble_eq_true rfl) h
theorem sX11_readRow_0 {v1 : Int32} {v2 : Int32} {v3 : Int32} 
    (k0 : pg_At S Λ YX11_readRow (d + 1) 3 [(0, .ref 207), (1, .int v1), (2, .int v2), (3, .int v3), (4, .int 0)] [] M P) :
    pg_At S Λ YX11_readRow (d + 1) 0 [(0, .ref 207), (1, .int v1), (2, .int v2), (3, .int v3)] [] M P := by
  refine pg_iconst (pc := 0) (v := 0) dX11_readRow_0 (by decide) ?_
  refine pg_istore (pc := 1) (i := 4) (ls' := [(4, .int 0), (0, .ref 207), (1, .int v1), (2, .int v2), (3, .int v3)]) dX11_readRow_1 (by decide) rfl ?_
  refine pg_drop (ks := [1, 2, 3, 4, 0]) (ls' := [(0, .ref 207), (1, .int v1), (2, .int v2), (3, .int v3), (4, .int 0)]) rfl ?_
  exact k0
theorem sX11_readRow_3 {v1 : Int32} {v2 : Int32} {v3 : Int32} {v4 : Int32} 
    (h0 : pg_isX11 Λ)
    (k0 : (¬ (M.1 207 8) = 0) → P (some (.int v4)) M)
    (k1 : ((M.1 207 8) = 0) → (v4 = 0) → pg_At S Λ YX11_readRow (d + 1) 28 [(0, .ref 207), (1, .int v1), (2, .int v2), (3, .int v3), (4, .int v4)] [] M P)
    (b0 : ((M.1 207 8) = 0) → (¬ v4 = 0) → vp_in (M.1 207 7) 1002)
    (k2 : ((M.1 207 8) = 0) → (¬ v4 = 0) → (¬ (M.1 209 (M.1 207 7).toNatClampNeg) = 2) → P (some (.int v4)) M)
    (k3 : ((M.1 207 8) = 0) → (¬ v4 = 0) → ((M.1 209 (M.1 207 7).toNatClampNeg) = 2) → pg_At S Λ YX11_readRow (d + 1) 28 [(0, .ref 207), (1, .int v1), (2, .int v2), (3, .int v3), (4, .int v4)] [] M P) :
    pg_At S Λ YX11_readRow (d + 1) 3 [(0, .ref 207), (1, .int v1), (2, .int v2), (3, .int v3), (4, .int v4)] [] M P := by
  refine pg_aload_n (pc := 3) (i := 0) (j := 0) (x := 207) dX11_readRow_3 rfl rfl ?_
  refine gfX11_177 (pc := 4) rfl h0 dX11_readRow_4 ?_
  refine pg_if_ne (pc := 7) (tgt := 95) dX11_readRow_7 (by decide) (fun c0 => ?_) (fun c0 => ?_)
  · skip
    refine pg_iload (pc := 95) (i := 4) (j := 4) (x := v4) dX11_readRow_95 rfl ?_
    exact pg_iret (pc := 97) rfl dX11_readRow_97 (k0 c0)
  · skip
    refine pg_iload (pc := 10) (i := 4) (j := 4) (x := v4) dX11_readRow_10 rfl ?_
    refine pg_if_eq (pc := 12) (tgt := 28) dX11_readRow_12 (by decide) (fun c1 => ?_) (fun c1 => ?_)
    · skip
      exact k1 c0 c1
    · skip
      refine pg_aload_n (pc := 15) (i := 0) (j := 0) (x := 207) dX11_readRow_15 rfl rfl ?_
      refine gfX11_24 (pc := 16) rfl h0 dX11_readRow_16 ?_
      refine pg_aload_n (pc := 19) (i := 0) (j := 0) (x := 207) dX11_readRow_19 rfl rfl ?_
      refine gfX11_174 (pc := 20) rfl h0 dX11_readRow_20 ?_
      refine pg_iald (pc := 23) h0.2.2.1 (b0 c0 c1) dX11_readRow_23 ?_
      refine pg_iconst (pc := 24) (v := 2) dX11_readRow_24 (by decide) ?_
      refine pg_icmp_ne (pc := 25) (tgt := 95) dX11_readRow_25 (by decide) (fun c2 => ?_) (fun c2 => ?_)
      · skip
        refine pg_iload (pc := 95) (i := 4) (j := 4) (x := v4) dX11_readRow_95 rfl ?_
        exact pg_iret (pc := 97) rfl dX11_readRow_97 (k2 c0 c1 c2)
      · skip
        exact k3 c0 c1 c2
theorem sX11_readRow_28 {v1 : Int32} {v2 : Int32} {v3 : Int32} {v4 : Int32} {Q0 : Int32 → pg_M → Prop} {Q1 : pg_M → Prop}
    (h0 : pg_isX11 Λ)
    (e0 : pg_Ev S Λ YX11_takeNumber d [.ref 207, .int v3, .int 9] M (fun r M' => ∃ x, r = some (.int x) ∧ Q0 x M'))
    (k0 : ∀ x1 M1, Q0 x1 M1 → (¬ (M1.1 207 8) = 0) → (¬ (M1.1 207 8) = 0) → pg_At S Λ YX11_readRow (d + 1) 3 [(0, .ref 207), (1, .int v1), (2, .int v2), (3, .int v3), (4, .int v4)] [] M1 P)
    (b0 : ∀ x1 M1, Q0 x1 M1 → (¬ (M1.1 207 8) = 0) → ((M1.1 207 8) = 0) → vp_in ((100 + v1) + v4) 200)
    (k1 : ∀ x1 M1, Q0 x1 M1 → (¬ (M1.1 207 8) = 0) → ((M1.1 207 8) = 0) → pg_At S Λ YX11_readRow (d + 1) 3 [(0, .ref 207), (1, .int v1), (2, .int v2), (3, .int v3), (4, .int (v4 + 1))] [] (pg_si M1 213 ((100 + v1) + v4).toNatClampNeg x1) P)
    (k2 : ∀ x1 M1, Q0 x1 M1 → ((M1.1 207 8) = 0) → (¬ v4 = v2) → (¬ (M1.1 207 8) = 0) → pg_At S Λ YX11_readRow (d + 1) 3 [(0, .ref 207), (1, .int v1), (2, .int v2), (3, .int v3), (4, .int v4)] [] M1 P)
    (b1 : ∀ x1 M1, Q0 x1 M1 → ((M1.1 207 8) = 0) → (¬ v4 = v2) → ((M1.1 207 8) = 0) → vp_in ((100 + v1) + v4) 200)
    (k3 : ∀ x1 M1, Q0 x1 M1 → ((M1.1 207 8) = 0) → (¬ v4 = v2) → ((M1.1 207 8) = 0) → pg_At S Λ YX11_readRow (d + 1) 3 [(0, .ref 207), (1, .int v1), (2, .int v2), (3, .int v3), (4, .int (v4 + 1))] [] (pg_si M1 213 ((100 + v1) + v4).toNatClampNeg x1) P)
    (e1 : ∀ x1 M1, Q0 x1 M1 → ((M1.1 207 8) = 0) → (v4 = v2) → pg_Ev S Λ YX11_wrong d [.ref 207, .int 5] (pg_si M1 207 7 ((M1.1 207 7) - 1)) (fun r M' => r = none ∧ Q1 M'))
    (k4 : ∀ x1 M1, Q0 x1 M1 → ((M1.1 207 8) = 0) → (v4 = v2) → ∀ M2, Q1 M2 → pg_At S Λ YX11_readRow (d + 1) 3 [(0, .ref 207), (1, .int v1), (2, .int v2), (3, .int v3), (4, .int v4)] [] M2 P) :
    pg_At S Λ YX11_readRow (d + 1) 28 [(0, .ref 207), (1, .int v1), (2, .int v2), (3, .int v3), (4, .int v4)] [] M P := by
  refine pg_aload_n (pc := 28) (i := 0) (j := 0) (x := 207) dX11_readRow_28 rfl rfl ?_
  refine pg_iload_n (pc := 29) (i := 3) (j := 3) (x := v3) dX11_readRow_29 rfl rfl ?_
  refine pg_bipush (pc := 30) (v := 9) dX11_readRow_30 (by decide) ?_
  refine pg_callV (pc := 32) (As := [.int v3, .int 9]) (st := []) okX11_takeNumber lkX11_195 rfl h0.1 rfl (Nat.le_refl _) (Nat.le_of_ble_eq_true rfl) e0 dX11_readRow_32 (fun r1 M1 w1 => ?_)
  obtain ⟨x1, rfl, w1⟩ := w1
  refine pg_istore (pc := 35) (i := 5) (ls' := [(5, .int x1), (0, .ref 207), (1, .int v1), (2, .int v2), (3, .int v3), (4, .int v4)]) dX11_readRow_35 (by decide) rfl ?_
  refine pg_aload_n (pc := 37) (i := 0) (j := 1) (x := 207) dX11_readRow_37 rfl rfl ?_
  refine gfX11_177 (pc := 38) rfl h0 dX11_readRow_38 ?_
  refine pg_if_ne (pc := 41) (tgt := 68) dX11_readRow_41 (by decide) (fun c0 => ?_) (fun c0 => ?_)
  · skip
    refine pg_aload_n (pc := 68) (i := 0) (j := 1) (x := 207) dX11_readRow_68 rfl rfl ?_
    refine gfX11_177 (pc := 69) rfl h0 dX11_readRow_69 ?_
    refine pg_if_ne (pc := 72) (tgt := 92) dX11_readRow_72 (by decide) (fun c1 => ?_) (fun c1 => ?_)
    · skip
      refine pg_goto (pc := 92) (tgt := 3) dX11_readRow_92 (by decide) ?_
      refine pg_drop (ks := [1, 2, 3, 4, 5]) (ls' := [(0, .ref 207), (1, .int v1), (2, .int v2), (3, .int v3), (4, .int v4)]) rfl ?_
      exact k0 x1 M1 w1 c0 c1
    · skip
      refine pg_aload_n (pc := 75) (i := 0) (j := 1) (x := 207) dX11_readRow_75 rfl rfl ?_
      refine gfX11_89 (pc := 76) rfl h0 dX11_readRow_76 ?_
      refine pg_bipush (pc := 79) (v := 100) dX11_readRow_79 (by decide) ?_
      refine pg_iload_n (pc := 81) (i := 1) (j := 2) (x := v1) dX11_readRow_81 rfl rfl ?_
      refine pg_iadd (pc := 82) dX11_readRow_82 ?_
      refine pg_iload (pc := 83) (i := 4) (j := 5) (x := v4) dX11_readRow_83 rfl ?_
      refine pg_iadd (pc := 85) dX11_readRow_85 ?_
      refine pg_iload (pc := 86) (i := 5) (j := 0) (x := x1) dX11_readRow_86 rfl ?_
      refine pg_iast (pc := 88) h0.2.2.2.2.2.2.1 (b0 x1 M1 w1 c0 c1) dX11_readRow_88 ?_
      refine pg_iinc (pc := 89) (i := 4) (j := 5) (x := v4) (v := v4 + 1) (ls' := [(4, .int (v4 + 1)), (5, .int x1), (0, .ref 207), (1, .int v1), (2, .int v2), (3, .int v3)]) dX11_readRow_89 rfl rfl (by decide) rfl ?_
      refine pg_goto (pc := 92) (tgt := 3) dX11_readRow_92 (by decide) ?_
      refine pg_drop (ks := [2, 3, 4, 5, 0]) (ls' := [(0, .ref 207), (1, .int v1), (2, .int v2), (3, .int v3), (4, .int (v4 + 1))]) rfl ?_
      exact k1 x1 M1 w1 c0 c1
  · skip
    refine pg_iload (pc := 44) (i := 4) (j := 5) (x := v4) dX11_readRow_44 rfl ?_
    refine pg_iload_n (pc := 46) (i := 2) (j := 3) (x := v2) dX11_readRow_46 rfl rfl ?_
    refine pg_icmp_ne (pc := 47) (tgt := 68) dX11_readRow_47 (by decide) (fun c1 => ?_) (fun c1 => ?_)
    · skip
      refine pg_aload_n (pc := 68) (i := 0) (j := 1) (x := 207) dX11_readRow_68 rfl rfl ?_
      refine gfX11_177 (pc := 69) rfl h0 dX11_readRow_69 ?_
      refine pg_if_ne (pc := 72) (tgt := 92) dX11_readRow_72 (by decide) (fun c2 => ?_) (fun c2 => ?_)
      · skip
        refine pg_goto (pc := 92) (tgt := 3) dX11_readRow_92 (by decide) ?_
        refine pg_drop (ks := [1, 2, 3, 4, 5]) (ls' := [(0, .ref 207), (1, .int v1), (2, .int v2), (3, .int v3), (4, .int v4)]) rfl ?_
        exact k2 x1 M1 w1 c0 c1 c2
      · skip
        refine pg_aload_n (pc := 75) (i := 0) (j := 1) (x := 207) dX11_readRow_75 rfl rfl ?_
        refine gfX11_89 (pc := 76) rfl h0 dX11_readRow_76 ?_
        refine pg_bipush (pc := 79) (v := 100) dX11_readRow_79 (by decide) ?_
        refine pg_iload_n (pc := 81) (i := 1) (j := 2) (x := v1) dX11_readRow_81 rfl rfl ?_
        refine pg_iadd (pc := 82) dX11_readRow_82 ?_
        refine pg_iload (pc := 83) (i := 4) (j := 5) (x := v4) dX11_readRow_83 rfl ?_
        refine pg_iadd (pc := 85) dX11_readRow_85 ?_
        refine pg_iload (pc := 86) (i := 5) (j := 0) (x := x1) dX11_readRow_86 rfl ?_
        refine pg_iast (pc := 88) h0.2.2.2.2.2.2.1 (b1 x1 M1 w1 c0 c1 c2) dX11_readRow_88 ?_
        refine pg_iinc (pc := 89) (i := 4) (j := 5) (x := v4) (v := v4 + 1) (ls' := [(4, .int (v4 + 1)), (5, .int x1), (0, .ref 207), (1, .int v1), (2, .int v2), (3, .int v3)]) dX11_readRow_89 rfl rfl (by decide) rfl ?_
        refine pg_goto (pc := 92) (tgt := 3) dX11_readRow_92 (by decide) ?_
        refine pg_drop (ks := [2, 3, 4, 5, 0]) (ls' := [(0, .ref 207), (1, .int v1), (2, .int v2), (3, .int v3), (4, .int (v4 + 1))]) rfl ?_
        exact k3 x1 M1 w1 c0 c1 c2
    · skip
      refine pg_aload_n (pc := 50) (i := 0) (j := 1) (x := 207) dX11_readRow_50 rfl rfl ?_
      refine pg_dup (pc := 51) dX11_readRow_51 rfl ?_
      refine gfX11_174 (pc := 52) rfl h0 dX11_readRow_52 ?_
      refine pg_iconst (pc := 55) (v := 1) dX11_readRow_55 (by decide) ?_
      refine pg_isub (pc := 56) dX11_readRow_56 ?_
      refine pfX11_174 (pc := 57) rfl h0 dX11_readRow_57 ?_
      refine pg_aload_n (pc := 60) (i := 0) (j := 1) (x := 207) dX11_readRow_60 rfl rfl ?_
      refine pg_iconst (pc := 61) (v := 5) dX11_readRow_61 (by decide) ?_
      refine pg_callV (pc := 62) (As := [.int 5]) (st := []) okX11_wrong lkX11_183 rfl h0.1 rfl (Nat.le_refl _) (Nat.le_of_ble_eq_true rfl) (e1 x1 M1 w1 c0 c1) dX11_readRow_62 (fun r2 M2 w2 => ?_)
      obtain ⟨rfl, w2⟩ := w2
      refine pg_goto (pc := 65) (tgt := 92) dX11_readRow_65 (by decide) ?_
      refine pg_goto (pc := 92) (tgt := 3) dX11_readRow_92 (by decide) ?_
      refine pg_drop (ks := [1, 2, 3, 4, 5]) (ls' := [(0, .ref 207), (1, .int v1), (2, .int v2), (3, .int v3), (4, .int v4)]) rfl ?_
      exact k4 x1 M1 w1 c0 c1 M2 w2
theorem oX11_readRow {d : Nat} {v1 : Int32} {v2 : Int32} {v3 : Int32} (h : pg_At S Λ YX11_readRow d 0 [(0, .ref 207), (1, .int v1), (2, .int v2), (3, .int v3)] [] M P) : pg_Ev S Λ YX11_readRow d [.ref 207, .int v1, .int v2, .int v3] M P := pg_Ev.of (by decide) (by first | decide | exact Nat.le_of_ble_eq_true rfl) h
theorem sX11_day_0  {Q0 : pg_M → Prop}
    (h0 : pg_isX11 Λ)
    (e0 : pg_Ev S Λ YX11_cutAll d [.ref 207] (pg_si M 207 0 0) (fun r M' => r = none ∧ Q0 M'))
    (k0 : ∀ M1, Q0 M1 → pg_At S Λ YX11_day (d + 1) 11 [(0, .ref 207), (1, .int 0)] [] M1 P) :
    pg_At S Λ YX11_day (d + 1) 0 [(0, .ref 207)] [] M P := by
  refine pg_aload_n (pc := 0) (i := 0) (j := 0) (x := 207) dX11_day_0 rfl rfl ?_
  refine pg_iconst (pc := 1) (v := 0) dX11_day_1 (by decide) ?_
  refine pfX11_1 (pc := 2) rfl h0 dX11_day_2 ?_
  refine pg_aload_n (pc := 5) (i := 0) (j := 0) (x := 207) dX11_day_5 rfl rfl ?_
  refine pg_callV (pc := 6) (As := []) (st := []) okX11_cutAll lkX11_219 rfl h0.1 rfl (Nat.le_refl _) (Nat.le_of_ble_eq_true rfl) e0 dX11_day_6 (fun r1 M1 w1 => ?_)
  obtain ⟨rfl, w1⟩ := w1
  refine pg_iconst (pc := 9) (v := 0) dX11_day_9 (by decide) ?_
  refine pg_istore_n (pc := 10) (i := 1) (ls' := [(1, .int 0), (0, .ref 207)]) dX11_day_10 rfl (by decide) rfl ?_
  refine pg_drop (ks := [1, 0]) (ls' := [(0, .ref 207), (1, .int 0)]) rfl ?_
  exact k0 M1 w1
theorem sX11_day_11 {v1 : Int32} {Q0 : Int32 → pg_M → Prop} {Q1 : pg_M → Prop} {Q2 : Int32 → pg_M → Prop} {Q3 : pg_M → Prop} {Q4 : Int32 → pg_M → Prop} {Q5 : pg_M → Prop} {Q6 : Int32 → pg_M → Prop} {Q7 : pg_M → Prop} {Q8 : Int32 → pg_M → Prop} {Q9 : pg_M → Prop} {Q10 : Int32 → pg_M → Prop} {Q11 : pg_M → Prop} {Q12 : pg_M → Prop} {Q13 : pg_M → Prop} {Q14 : pg_M → Prop} {Q15 : pg_M → Prop}
    (h0 : pg_isX11 Λ)
    (k0 : (¬ (M.1 207 8) = 0) → ((M.1 207 8) ≤ 0) → pg_At S Λ YX11_day (d + 1) 182 [(0, .ref 207), (1, .int v1), (2, .int 0)] [] (pg_si M 218 (0 : Int32).toNatClampNeg v1) P)
    (k1 : (¬ (M.1 207 8) = 0) → (¬ (M.1 207 8) ≤ 0) → P (some (.int (M.1 207 8))) M)
    (b0 : ((M.1 207 8) = 0) → vp_in (M.1 207 7) 1002)
    (k2 : ((M.1 207 8) = 0) → ((M.1 209 (M.1 207 7).toNatClampNeg) = 0) → ((M.1 207 8) ≤ 0) → pg_At S Λ YX11_day (d + 1) 182 [(0, .ref 207), (1, .int v1), (2, .int 0)] [] (pg_si M 218 (0 : Int32).toNatClampNeg v1) P)
    (k3 : ((M.1 207 8) = 0) → ((M.1 209 (M.1 207 7).toNatClampNeg) = 0) → (¬ (M.1 207 8) ≤ 0) → P (some (.int (M.1 207 8))) M)
    (e0 : ((M.1 207 8) = 0) → (¬ (M.1 209 (M.1 207 7).toNatClampNeg) = 0) → pg_Ev S Λ YX11_wordHere d [.ref 207, .int 11, .int 5] M (fun r M' => ∃ x, r = some (.int x) ∧ Q0 x M'))
    (b1 : ((M.1 207 8) = 0) → (¬ (M.1 209 (M.1 207 7).toNatClampNeg) = 0) → ∀ x1 M1, Q0 x1 M1 → (0 ≤ x1) → (¬ v1 = 30) → vp_in (100 + (3 * v1)) 200)
    (b2 : ((M.1 207 8) = 0) → (¬ (M.1 209 (M.1 207 7).toNatClampNeg) = 0) → ∀ x1 M1, Q0 x1 M1 → (0 ≤ x1) → (¬ v1 = 30) → (3 ≤ x1) → (¬ x1 = 3) → vp_in (101 + (3 * v1)) 200)
    (b3 : ((M.1 207 8) = 0) → (¬ (M.1 209 (M.1 207 7).toNatClampNeg) = 0) → ∀ x1 M1, Q0 x1 M1 → (0 ≤ x1) → (¬ v1 = 30) → (3 ≤ x1) → (¬ x1 = 3) → ∀ N1, N1 = pg_si (pg_si (pg_si M1 207 7 ((M1.1 207 7) + 1)) 218 (100 + (3 * v1)).toNatClampNeg x1) 218 (101 + (3 * v1)).toNatClampNeg 0 → (¬ x1 = 0) → vp_in (102 + (3 * v1)) 200)
    (e1 : ((M.1 207 8) = 0) → (¬ (M.1 209 (M.1 207 7).toNatClampNeg) = 0) → ∀ x1 M1, Q0 x1 M1 → (0 ≤ x1) → (¬ v1 = 30) → (3 ≤ x1) → (¬ x1 = 3) → ∀ N1, N1 = pg_si (pg_si (pg_si M1 207 7 ((M1.1 207 7) + 1)) 218 (100 + (3 * v1)).toNatClampNeg x1) 218 (101 + (3 * v1)).toNatClampNeg 0 → (¬ x1 = 0) → pg_Ev S Λ YX11_takeSign d [.ref 207, .int 59] (pg_si N1 218 (102 + (3 * v1)).toNatClampNeg 0) (fun r M' => r = none ∧ Q1 M'))
    (k4 : ((M.1 207 8) = 0) → (¬ (M.1 209 (M.1 207 7).toNatClampNeg) = 0) → ∀ x1 M1, Q0 x1 M1 → (0 ≤ x1) → (¬ v1 = 30) → (3 ≤ x1) → (¬ x1 = 3) → ∀ N1, N1 = pg_si (pg_si (pg_si M1 207 7 ((M1.1 207 7) + 1)) 218 (100 + (3 * v1)).toNatClampNeg x1) 218 (101 + (3 * v1)).toNatClampNeg 0 → (¬ x1 = 0) → ∀ M2, Q1 M2 → pg_At S Λ YX11_day (d + 1) 11 [(0, .ref 207), (1, .int (v1 + 1))] [] M2 P)
    (e2 : ((M.1 207 8) = 0) → (¬ (M.1 209 (M.1 207 7).toNatClampNeg) = 0) → ∀ x1 M1, Q0 x1 M1 → (0 ≤ x1) → (¬ v1 = 30) → (3 ≤ x1) → (¬ x1 = 3) → ∀ N1, N1 = pg_si (pg_si (pg_si M1 207 7 ((M1.1 207 7) + 1)) 218 (100 + (3 * v1)).toNatClampNeg x1) 218 (101 + (3 * v1)).toNatClampNeg 0 → (x1 = 0) → pg_Ev S Λ YX11_readPegs d [.ref 207] N1 (fun r M' => ∃ x, r = some (.int x) ∧ Q2 x M'))
    (b4 : ((M.1 207 8) = 0) → (¬ (M.1 209 (M.1 207 7).toNatClampNeg) = 0) → ∀ x1 M1, Q0 x1 M1 → (0 ≤ x1) → (¬ v1 = 30) → (3 ≤ x1) → (¬ x1 = 3) → ∀ N1, N1 = pg_si (pg_si (pg_si M1 207 7 ((M1.1 207 7) + 1)) 218 (100 + (3 * v1)).toNatClampNeg x1) 218 (101 + (3 * v1)).toNatClampNeg 0 → (x1 = 0) → ∀ x3 M3, Q2 x3 M3 → vp_in (102 + (3 * v1)) 200)
    (e3 : ((M.1 207 8) = 0) → (¬ (M.1 209 (M.1 207 7).toNatClampNeg) = 0) → ∀ x1 M1, Q0 x1 M1 → (0 ≤ x1) → (¬ v1 = 30) → (3 ≤ x1) → (¬ x1 = 3) → ∀ N1, N1 = pg_si (pg_si (pg_si M1 207 7 ((M1.1 207 7) + 1)) 218 (100 + (3 * v1)).toNatClampNeg x1) 218 (101 + (3 * v1)).toNatClampNeg 0 → (x1 = 0) → ∀ x3 M3, Q2 x3 M3 → pg_Ev S Λ YX11_takeSign d [.ref 207, .int 59] (pg_si M3 218 (102 + (3 * v1)).toNatClampNeg x3) (fun r M' => r = none ∧ Q3 M'))
    (k5 : ((M.1 207 8) = 0) → (¬ (M.1 209 (M.1 207 7).toNatClampNeg) = 0) → ∀ x1 M1, Q0 x1 M1 → (0 ≤ x1) → (¬ v1 = 30) → (3 ≤ x1) → (¬ x1 = 3) → ∀ N1, N1 = pg_si (pg_si (pg_si M1 207 7 ((M1.1 207 7) + 1)) 218 (100 + (3 * v1)).toNatClampNeg x1) 218 (101 + (3 * v1)).toNatClampNeg 0 → (x1 = 0) → ∀ x3 M3, Q2 x3 M3 → ∀ M4, Q3 M4 → pg_At S Λ YX11_day (d + 1) 11 [(0, .ref 207), (1, .int (v1 + 1))] [] M4 P)
    (e4 : ((M.1 207 8) = 0) → (¬ (M.1 209 (M.1 207 7).toNatClampNeg) = 0) → ∀ x1 M1, Q0 x1 M1 → (0 ≤ x1) → (¬ v1 = 30) → (3 ≤ x1) → (x1 = 3) → pg_Ev S Λ YX11_takeNumber d [.ref 207, .int 1, .int 9] (pg_si (pg_si M1 207 7 ((M1.1 207 7) + 1)) 218 (100 + (3 * v1)).toNatClampNeg x1) (fun r M' => ∃ x, r = some (.int x) ∧ Q4 x M'))
    (b5 : ((M.1 207 8) = 0) → (¬ (M.1 209 (M.1 207 7).toNatClampNeg) = 0) → ∀ x1 M1, Q0 x1 M1 → (0 ≤ x1) → (¬ v1 = 30) → (3 ≤ x1) → (x1 = 3) → ∀ x5 M5, Q4 x5 M5 → vp_in (101 + (3 * v1)) 200)
    (b6 : ((M.1 207 8) = 0) → (¬ (M.1 209 (M.1 207 7).toNatClampNeg) = 0) → ∀ x1 M1, Q0 x1 M1 → (0 ≤ x1) → (¬ v1 = 30) → (3 ≤ x1) → (x1 = 3) → ∀ x5 M5, Q4 x5 M5 → (¬ x1 = 0) → vp_in (102 + (3 * v1)) 200)
    (e5 : ((M.1 207 8) = 0) → (¬ (M.1 209 (M.1 207 7).toNatClampNeg) = 0) → ∀ x1 M1, Q0 x1 M1 → (0 ≤ x1) → (¬ v1 = 30) → (3 ≤ x1) → (x1 = 3) → ∀ x5 M5, Q4 x5 M5 → (¬ x1 = 0) → pg_Ev S Λ YX11_takeSign d [.ref 207, .int 59] (pg_si (pg_si M5 218 (101 + (3 * v1)).toNatClampNeg x5) 218 (102 + (3 * v1)).toNatClampNeg 0) (fun r M' => r = none ∧ Q5 M'))
    (k6 : ((M.1 207 8) = 0) → (¬ (M.1 209 (M.1 207 7).toNatClampNeg) = 0) → ∀ x1 M1, Q0 x1 M1 → (0 ≤ x1) → (¬ v1 = 30) → (3 ≤ x1) → (x1 = 3) → ∀ x5 M5, Q4 x5 M5 → (¬ x1 = 0) → ∀ M6, Q5 M6 → pg_At S Λ YX11_day (d + 1) 11 [(0, .ref 207), (1, .int (v1 + 1))] [] M6 P)
    (e6 : ((M.1 207 8) = 0) → (¬ (M.1 209 (M.1 207 7).toNatClampNeg) = 0) → ∀ x1 M1, Q0 x1 M1 → (0 ≤ x1) → (¬ v1 = 30) → (3 ≤ x1) → (x1 = 3) → ∀ x5 M5, Q4 x5 M5 → (x1 = 0) → pg_Ev S Λ YX11_readPegs d [.ref 207] (pg_si M5 218 (101 + (3 * v1)).toNatClampNeg x5) (fun r M' => ∃ x, r = some (.int x) ∧ Q6 x M'))
    (b7 : ((M.1 207 8) = 0) → (¬ (M.1 209 (M.1 207 7).toNatClampNeg) = 0) → ∀ x1 M1, Q0 x1 M1 → (0 ≤ x1) → (¬ v1 = 30) → (3 ≤ x1) → (x1 = 3) → ∀ x5 M5, Q4 x5 M5 → (x1 = 0) → ∀ x7 M7, Q6 x7 M7 → vp_in (102 + (3 * v1)) 200)
    (e7 : ((M.1 207 8) = 0) → (¬ (M.1 209 (M.1 207 7).toNatClampNeg) = 0) → ∀ x1 M1, Q0 x1 M1 → (0 ≤ x1) → (¬ v1 = 30) → (3 ≤ x1) → (x1 = 3) → ∀ x5 M5, Q4 x5 M5 → (x1 = 0) → ∀ x7 M7, Q6 x7 M7 → pg_Ev S Λ YX11_takeSign d [.ref 207, .int 59] (pg_si M7 218 (102 + (3 * v1)).toNatClampNeg x7) (fun r M' => r = none ∧ Q7 M'))
    (k7 : ((M.1 207 8) = 0) → (¬ (M.1 209 (M.1 207 7).toNatClampNeg) = 0) → ∀ x1 M1, Q0 x1 M1 → (0 ≤ x1) → (¬ v1 = 30) → (3 ≤ x1) → (x1 = 3) → ∀ x5 M5, Q4 x5 M5 → (x1 = 0) → ∀ x7 M7, Q6 x7 M7 → ∀ M8, Q7 M8 → pg_At S Λ YX11_day (d + 1) 11 [(0, .ref 207), (1, .int (v1 + 1))] [] M8 P)
    (e8 : ((M.1 207 8) = 0) → (¬ (M.1 209 (M.1 207 7).toNatClampNeg) = 0) → ∀ x1 M1, Q0 x1 M1 → (0 ≤ x1) → (¬ v1 = 30) → (¬ 3 ≤ x1) → pg_Ev S Λ YX11_takeTold d [.ref 207, .int 0] (pg_si (pg_si M1 207 7 ((M1.1 207 7) + 1)) 218 (100 + (3 * v1)).toNatClampNeg x1) (fun r M' => ∃ x, r = some (.int x) ∧ Q8 x M'))
    (b8 : ((M.1 207 8) = 0) → (¬ (M.1 209 (M.1 207 7).toNatClampNeg) = 0) → ∀ x1 M1, Q0 x1 M1 → (0 ≤ x1) → (¬ v1 = 30) → (¬ 3 ≤ x1) → ∀ x9 M9, Q8 x9 M9 → vp_in (101 + (3 * v1)) 200)
    (b9 : ((M.1 207 8) = 0) → (¬ (M.1 209 (M.1 207 7).toNatClampNeg) = 0) → ∀ x1 M1, Q0 x1 M1 → (0 ≤ x1) → (¬ v1 = 30) → (¬ 3 ≤ x1) → ∀ x9 M9, Q8 x9 M9 → (¬ x1 = 0) → vp_in (102 + (3 * v1)) 200)
    (e9 : ((M.1 207 8) = 0) → (¬ (M.1 209 (M.1 207 7).toNatClampNeg) = 0) → ∀ x1 M1, Q0 x1 M1 → (0 ≤ x1) → (¬ v1 = 30) → (¬ 3 ≤ x1) → ∀ x9 M9, Q8 x9 M9 → (¬ x1 = 0) → pg_Ev S Λ YX11_takeSign d [.ref 207, .int 59] (pg_si (pg_si M9 218 (101 + (3 * v1)).toNatClampNeg x9) 218 (102 + (3 * v1)).toNatClampNeg 0) (fun r M' => r = none ∧ Q9 M'))
    (k8 : ((M.1 207 8) = 0) → (¬ (M.1 209 (M.1 207 7).toNatClampNeg) = 0) → ∀ x1 M1, Q0 x1 M1 → (0 ≤ x1) → (¬ v1 = 30) → (¬ 3 ≤ x1) → ∀ x9 M9, Q8 x9 M9 → (¬ x1 = 0) → ∀ M10, Q9 M10 → pg_At S Λ YX11_day (d + 1) 11 [(0, .ref 207), (1, .int (v1 + 1))] [] M10 P)
    (e10 : ((M.1 207 8) = 0) → (¬ (M.1 209 (M.1 207 7).toNatClampNeg) = 0) → ∀ x1 M1, Q0 x1 M1 → (0 ≤ x1) → (¬ v1 = 30) → (¬ 3 ≤ x1) → ∀ x9 M9, Q8 x9 M9 → (x1 = 0) → pg_Ev S Λ YX11_readPegs d [.ref 207] (pg_si M9 218 (101 + (3 * v1)).toNatClampNeg x9) (fun r M' => ∃ x, r = some (.int x) ∧ Q10 x M'))
    (b10 : ((M.1 207 8) = 0) → (¬ (M.1 209 (M.1 207 7).toNatClampNeg) = 0) → ∀ x1 M1, Q0 x1 M1 → (0 ≤ x1) → (¬ v1 = 30) → (¬ 3 ≤ x1) → ∀ x9 M9, Q8 x9 M9 → (x1 = 0) → ∀ x11 M11, Q10 x11 M11 → vp_in (102 + (3 * v1)) 200)
    (e11 : ((M.1 207 8) = 0) → (¬ (M.1 209 (M.1 207 7).toNatClampNeg) = 0) → ∀ x1 M1, Q0 x1 M1 → (0 ≤ x1) → (¬ v1 = 30) → (¬ 3 ≤ x1) → ∀ x9 M9, Q8 x9 M9 → (x1 = 0) → ∀ x11 M11, Q10 x11 M11 → pg_Ev S Λ YX11_takeSign d [.ref 207, .int 59] (pg_si M11 218 (102 + (3 * v1)).toNatClampNeg x11) (fun r M' => r = none ∧ Q11 M'))
    (k9 : ((M.1 207 8) = 0) → (¬ (M.1 209 (M.1 207 7).toNatClampNeg) = 0) → ∀ x1 M1, Q0 x1 M1 → (0 ≤ x1) → (¬ v1 = 30) → (¬ 3 ≤ x1) → ∀ x9 M9, Q8 x9 M9 → (x1 = 0) → ∀ x11 M11, Q10 x11 M11 → ∀ M12, Q11 M12 → pg_At S Λ YX11_day (d + 1) 11 [(0, .ref 207), (1, .int (v1 + 1))] [] M12 P)
    (e12 : ((M.1 207 8) = 0) → (¬ (M.1 209 (M.1 207 7).toNatClampNeg) = 0) → ∀ x1 M1, Q0 x1 M1 → (0 ≤ x1) → (v1 = 30) → pg_Ev S Λ YX11_wrong d [.ref 207, .int 5] M1 (fun r M' => r = none ∧ Q12 M'))
    (e13 : ((M.1 207 8) = 0) → (¬ (M.1 209 (M.1 207 7).toNatClampNeg) = 0) → ∀ x1 M1, Q0 x1 M1 → (0 ≤ x1) → (v1 = 30) → ∀ M13, Q12 M13 → pg_Ev S Λ YX11_takeSign d [.ref 207, .int 59] M13 (fun r M' => r = none ∧ Q13 M'))
    (k10 : ((M.1 207 8) = 0) → (¬ (M.1 209 (M.1 207 7).toNatClampNeg) = 0) → ∀ x1 M1, Q0 x1 M1 → (0 ≤ x1) → (v1 = 30) → ∀ M13, Q12 M13 → ∀ M14, Q13 M14 → pg_At S Λ YX11_day (d + 1) 11 [(0, .ref 207), (1, .int v1)] [] M14 P)
    (e14 : ((M.1 207 8) = 0) → (¬ (M.1 209 (M.1 207 7).toNatClampNeg) = 0) → ∀ x1 M1, Q0 x1 M1 → (¬ 0 ≤ x1) → pg_Ev S Λ YX11_wrong d [.ref 207, .int 1] M1 (fun r M' => r = none ∧ Q14 M'))
    (e15 : ((M.1 207 8) = 0) → (¬ (M.1 209 (M.1 207 7).toNatClampNeg) = 0) → ∀ x1 M1, Q0 x1 M1 → (¬ 0 ≤ x1) → ∀ M15, Q14 M15 → pg_Ev S Λ YX11_takeSign d [.ref 207, .int 59] M15 (fun r M' => r = none ∧ Q15 M'))
    (k11 : ((M.1 207 8) = 0) → (¬ (M.1 209 (M.1 207 7).toNatClampNeg) = 0) → ∀ x1 M1, Q0 x1 M1 → (¬ 0 ≤ x1) → ∀ M15, Q14 M15 → ∀ M16, Q15 M16 → pg_At S Λ YX11_day (d + 1) 11 [(0, .ref 207), (1, .int v1)] [] M16 P) :
    pg_At S Λ YX11_day (d + 1) 11 [(0, .ref 207), (1, .int v1)] [] M P := by
  refine pg_aload_n (pc := 11) (i := 0) (j := 0) (x := 207) dX11_day_11 rfl rfl ?_
  refine gfX11_177 (pc := 12) rfl h0 dX11_day_12 ?_
  refine pg_if_ne (pc := 15) (tgt := 161) dX11_day_15 (by decide) (fun c0 => ?_) (fun c0 => ?_)
  · skip
    refine pg_aload_n (pc := 161) (i := 0) (j := 0) (x := 207) dX11_day_161 rfl rfl ?_
    refine gfX11_177 (pc := 162) rfl h0 dX11_day_162 ?_
    refine pg_if_le (pc := 165) (tgt := 173) dX11_day_165 (by decide) (fun c1 => ?_) (fun c1 => ?_)
    · skip
      refine pg_aload_n (pc := 173) (i := 0) (j := 0) (x := 207) dX11_day_173 rfl rfl ?_
      refine gfX11_104 (pc := 174) rfl h0 dX11_day_174 ?_
      refine pg_iconst (pc := 177) (v := 0) dX11_day_177 (by decide) ?_
      refine pg_iload_n (pc := 178) (i := 1) (j := 1) (x := v1) dX11_day_178 rfl rfl ?_
      refine pg_iast (pc := 179) h0.2.2.2.2.2.2.2.2.2.2.2.1 (by unfold vp_in; decide) dX11_day_179 ?_
      refine pg_iconst (pc := 180) (v := 0) dX11_day_180 (by decide) ?_
      refine pg_istore_n (pc := 181) (i := 2) (ls' := [(2, .int 0), (0, .ref 207), (1, .int v1)]) dX11_day_181 rfl (by decide) rfl ?_
      refine pg_drop (ks := [1, 2, 0]) (ls' := [(0, .ref 207), (1, .int v1), (2, .int 0)]) rfl ?_
      exact k0 c0 c1
    · skip
      refine pg_aload_n (pc := 168) (i := 0) (j := 0) (x := 207) dX11_day_168 rfl rfl ?_
      refine gfX11_177 (pc := 169) rfl h0 dX11_day_169 ?_
      exact pg_iret (pc := 172) rfl dX11_day_172 (k1 c0 c1)
  · skip
    refine pg_aload_n (pc := 18) (i := 0) (j := 0) (x := 207) dX11_day_18 rfl rfl ?_
    refine gfX11_24 (pc := 19) rfl h0 dX11_day_19 ?_
    refine pg_aload_n (pc := 22) (i := 0) (j := 0) (x := 207) dX11_day_22 rfl rfl ?_
    refine gfX11_174 (pc := 23) rfl h0 dX11_day_23 ?_
    refine pg_iald (pc := 26) h0.2.2.1 (b0 c0) dX11_day_26 ?_
    refine pg_if_eq (pc := 27) (tgt := 161) dX11_day_27 (by decide) (fun c1 => ?_) (fun c1 => ?_)
    · skip
      refine pg_aload_n (pc := 161) (i := 0) (j := 0) (x := 207) dX11_day_161 rfl rfl ?_
      refine gfX11_177 (pc := 162) rfl h0 dX11_day_162 ?_
      refine pg_if_le (pc := 165) (tgt := 173) dX11_day_165 (by decide) (fun c2 => ?_) (fun c2 => ?_)
      · skip
        refine pg_aload_n (pc := 173) (i := 0) (j := 0) (x := 207) dX11_day_173 rfl rfl ?_
        refine gfX11_104 (pc := 174) rfl h0 dX11_day_174 ?_
        refine pg_iconst (pc := 177) (v := 0) dX11_day_177 (by decide) ?_
        refine pg_iload_n (pc := 178) (i := 1) (j := 1) (x := v1) dX11_day_178 rfl rfl ?_
        refine pg_iast (pc := 179) h0.2.2.2.2.2.2.2.2.2.2.2.1 (by unfold vp_in; decide) dX11_day_179 ?_
        refine pg_iconst (pc := 180) (v := 0) dX11_day_180 (by decide) ?_
        refine pg_istore_n (pc := 181) (i := 2) (ls' := [(2, .int 0), (0, .ref 207), (1, .int v1)]) dX11_day_181 rfl (by decide) rfl ?_
        refine pg_drop (ks := [1, 2, 0]) (ls' := [(0, .ref 207), (1, .int v1), (2, .int 0)]) rfl ?_
        exact k2 c0 c1 c2
      · skip
        refine pg_aload_n (pc := 168) (i := 0) (j := 0) (x := 207) dX11_day_168 rfl rfl ?_
        refine gfX11_177 (pc := 169) rfl h0 dX11_day_169 ?_
        exact pg_iret (pc := 172) rfl dX11_day_172 (k3 c0 c1 c2)
    · skip
      refine pg_aload_n (pc := 30) (i := 0) (j := 0) (x := 207) dX11_day_30 rfl rfl ?_
      refine pg_bipush (pc := 31) (v := 11) dX11_day_31 (by decide) ?_
      refine pg_iconst (pc := 33) (v := 5) dX11_day_33 (by decide) ?_
      refine pg_callV (pc := 34) (As := [.int 11, .int 5]) (st := []) okX11_wordHere lkX11_199 rfl h0.1 rfl (Nat.le_refl _) (Nat.le_of_ble_eq_true rfl) (e0 c0 c1) dX11_day_34 (fun r1 M1 w1 => ?_)
      obtain ⟨x1, rfl, w1⟩ := w1
      refine pg_istore_n (pc := 37) (i := 2) (ls' := [(2, .int x1), (0, .ref 207), (1, .int v1)]) dX11_day_37 rfl (by decide) rfl ?_
      refine pg_iload_n (pc := 38) (i := 2) (j := 0) (x := x1) dX11_day_38 rfl rfl ?_
      refine pg_if_ge (pc := 39) (tgt := 50) dX11_day_39 (by decide) (fun c2 => ?_) (fun c2 => ?_)
      · skip
        refine pg_iload_n (pc := 50) (i := 1) (j := 2) (x := v1) dX11_day_50 rfl rfl ?_
        refine pg_bipush (pc := 51) (v := 30) dX11_day_51 (by decide) ?_
        refine pg_icmp_ne (pc := 53) (tgt := 64) dX11_day_53 (by decide) (fun c3 => ?_) (fun c3 => ?_)
        · skip
          refine pg_aload_n (pc := 64) (i := 0) (j := 1) (x := 207) dX11_day_64 rfl rfl ?_
          refine pg_dup (pc := 65) dX11_day_65 rfl ?_
          refine gfX11_174 (pc := 66) rfl h0 dX11_day_66 ?_
          refine pg_iconst (pc := 69) (v := 1) dX11_day_69 (by decide) ?_
          refine pg_iadd (pc := 70) dX11_day_70 ?_
          refine pfX11_174 (pc := 71) rfl h0 dX11_day_71 ?_
          refine pg_aload_n (pc := 74) (i := 0) (j := 1) (x := 207) dX11_day_74 rfl rfl ?_
          refine gfX11_104 (pc := 75) rfl h0 dX11_day_75 ?_
          refine pg_bipush (pc := 78) (v := 100) dX11_day_78 (by decide) ?_
          refine pg_iconst (pc := 80) (v := 3) dX11_day_80 (by decide) ?_
          refine pg_iload_n (pc := 81) (i := 1) (j := 2) (x := v1) dX11_day_81 rfl rfl ?_
          refine pg_imul (pc := 82) dX11_day_82 ?_
          refine pg_iadd (pc := 83) dX11_day_83 ?_
          refine pg_iload_n (pc := 84) (i := 2) (j := 0) (x := x1) dX11_day_84 rfl rfl ?_
          refine pg_iast (pc := 85) h0.2.2.2.2.2.2.2.2.2.2.2.1 (b1 c0 c1 x1 M1 w1 c2 c3) dX11_day_85 ?_
          refine pg_aload_n (pc := 86) (i := 0) (j := 1) (x := 207) dX11_day_86 rfl rfl ?_
          refine gfX11_104 (pc := 87) rfl h0 dX11_day_87 ?_
          refine pg_bipush (pc := 90) (v := 101) dX11_day_90 (by decide) ?_
          refine pg_iconst (pc := 92) (v := 3) dX11_day_92 (by decide) ?_
          refine pg_iload_n (pc := 93) (i := 1) (j := 2) (x := v1) dX11_day_93 rfl rfl ?_
          refine pg_imul (pc := 94) dX11_day_94 ?_
          refine pg_iadd (pc := 95) dX11_day_95 ?_
          refine pg_iload_n (pc := 96) (i := 2) (j := 0) (x := x1) dX11_day_96 rfl rfl ?_
          refine pg_iconst (pc := 97) (v := 3) dX11_day_97 (by decide) ?_
          refine pg_icmp_ge (pc := 98) (tgt := 109) dX11_day_98 (by decide) (fun c4 => ?_) (fun c4 => ?_)
          · skip
            refine pg_iload_n (pc := 109) (i := 2) (j := 0) (x := x1) dX11_day_109 rfl rfl ?_
            refine pg_iconst (pc := 110) (v := 3) dX11_day_110 (by decide) ?_
            refine pg_icmp_ne (pc := 111) (tgt := 124) dX11_day_111 (by decide) (fun c5 => ?_) (fun c5 => ?_)
            · skip
              refine pg_iconst (pc := 124) (v := 0) dX11_day_124 (by decide) ?_
              refine pg_iast (pc := 125) h0.2.2.2.2.2.2.2.2.2.2.2.1 (b2 c0 c1 x1 M1 w1 c2 c3 c4 c5) dX11_day_125 ?_
              refine pg_named (fun N1 u1 => ?_)
              refine pg_aload_n (pc := 126) (i := 0) (j := 1) (x := 207) dX11_day_126 rfl rfl ?_
              refine gfX11_104 (pc := 127) rfl h0 dX11_day_127 ?_
              refine pg_bipush (pc := 130) (v := 102) dX11_day_130 (by decide) ?_
              refine pg_iconst (pc := 132) (v := 3) dX11_day_132 (by decide) ?_
              refine pg_iload_n (pc := 133) (i := 1) (j := 2) (x := v1) dX11_day_133 rfl rfl ?_
              refine pg_imul (pc := 134) dX11_day_134 ?_
              refine pg_iadd (pc := 135) dX11_day_135 ?_
              refine pg_iload_n (pc := 136) (i := 2) (j := 0) (x := x1) dX11_day_136 rfl rfl ?_
              refine pg_if_ne (pc := 137) (tgt := 147) dX11_day_137 (by decide) (fun c6 => ?_) (fun c6 => ?_)
              · skip
                refine pg_iconst (pc := 147) (v := 0) dX11_day_147 (by decide) ?_
                refine pg_iast (pc := 148) h0.2.2.2.2.2.2.2.2.2.2.2.1 (b3 c0 c1 x1 M1 w1 c2 c3 c4 c5 N1 u1 c6) dX11_day_148 ?_
                refine pg_iinc (pc := 149) (i := 1) (j := 2) (x := v1) (v := v1 + 1) (ls' := [(1, .int (v1 + 1)), (2, .int x1), (0, .ref 207)]) dX11_day_149 rfl rfl (by decide) rfl ?_
                refine pg_aload_n (pc := 152) (i := 0) (j := 2) (x := 207) dX11_day_152 rfl rfl ?_
                refine pg_bipush (pc := 153) (v := 59) dX11_day_153 (by decide) ?_
                refine pg_callV (pc := 155) (As := [.int 59]) (st := []) okX11_takeSign lkX11_237 rfl h0.1 rfl (Nat.le_refl _) (Nat.le_of_ble_eq_true rfl) (e1 c0 c1 x1 M1 w1 c2 c3 c4 c5 N1 u1 c6) dX11_day_155 (fun r2 M2 w2 => ?_)
                obtain ⟨rfl, w2⟩ := w2
                refine pg_goto (pc := 158) (tgt := 11) dX11_day_158 (by decide) ?_
                refine pg_drop (ks := [2, 0]) (ls' := [(0, .ref 207), (1, .int (v1 + 1))]) rfl ?_
                exact k4 c0 c1 x1 M1 w1 c2 c3 c4 c5 N1 u1 c6 M2 w2
              · skip
                refine pg_aload_n (pc := 140) (i := 0) (j := 1) (x := 207) dX11_day_140 rfl rfl ?_
                refine pg_callV (pc := 141) (As := []) (st := [.int (102 + (3 * v1)), .ref 218]) okX11_readPegs lkX11_260 rfl h0.1 rfl (Nat.le_refl _) (Nat.le_of_ble_eq_true rfl) (e2 c0 c1 x1 M1 w1 c2 c3 c4 c5 N1 u1 c6) dX11_day_141 (fun r3 M3 w3 => ?_)
                obtain ⟨x3, rfl, w3⟩ := w3
                refine pg_goto (pc := 144) (tgt := 148) dX11_day_144 (by decide) ?_
                refine pg_iast (pc := 148) h0.2.2.2.2.2.2.2.2.2.2.2.1 (b4 c0 c1 x1 M1 w1 c2 c3 c4 c5 N1 u1 c6 x3 M3 w3) dX11_day_148 ?_
                refine pg_iinc (pc := 149) (i := 1) (j := 2) (x := v1) (v := v1 + 1) (ls' := [(1, .int (v1 + 1)), (2, .int x1), (0, .ref 207)]) dX11_day_149 rfl rfl (by decide) rfl ?_
                refine pg_aload_n (pc := 152) (i := 0) (j := 2) (x := 207) dX11_day_152 rfl rfl ?_
                refine pg_bipush (pc := 153) (v := 59) dX11_day_153 (by decide) ?_
                refine pg_callV (pc := 155) (As := [.int 59]) (st := []) okX11_takeSign lkX11_237 rfl h0.1 rfl (Nat.le_refl _) (Nat.le_of_ble_eq_true rfl) (e3 c0 c1 x1 M1 w1 c2 c3 c4 c5 N1 u1 c6 x3 M3 w3) dX11_day_155 (fun r4 M4 w4 => ?_)
                obtain ⟨rfl, w4⟩ := w4
                refine pg_goto (pc := 158) (tgt := 11) dX11_day_158 (by decide) ?_
                refine pg_drop (ks := [2, 0]) (ls' := [(0, .ref 207), (1, .int (v1 + 1))]) rfl ?_
                exact k5 c0 c1 x1 M1 w1 c2 c3 c4 c5 N1 u1 c6 x3 M3 w3 M4 w4
            · skip
              refine pg_aload_n (pc := 114) (i := 0) (j := 1) (x := 207) dX11_day_114 rfl rfl ?_
              refine pg_iconst (pc := 115) (v := 1) dX11_day_115 (by decide) ?_
              refine pg_bipush (pc := 116) (v := 9) dX11_day_116 (by decide) ?_
              refine pg_callV (pc := 118) (As := [.int 1, .int 9]) (st := [.int (101 + (3 * v1)), .ref 218]) okX11_takeNumber lkX11_195 rfl h0.1 rfl (Nat.le_refl _) (Nat.le_of_ble_eq_true rfl) (e4 c0 c1 x1 M1 w1 c2 c3 c4 c5) dX11_day_118 (fun r5 M5 w5 => ?_)
              obtain ⟨x5, rfl, w5⟩ := w5
              refine pg_goto (pc := 121) (tgt := 125) dX11_day_121 (by decide) ?_
              refine pg_iast (pc := 125) h0.2.2.2.2.2.2.2.2.2.2.2.1 (b5 c0 c1 x1 M1 w1 c2 c3 c4 c5 x5 M5 w5) dX11_day_125 ?_
              refine pg_aload_n (pc := 126) (i := 0) (j := 1) (x := 207) dX11_day_126 rfl rfl ?_
              refine gfX11_104 (pc := 127) rfl h0 dX11_day_127 ?_
              refine pg_bipush (pc := 130) (v := 102) dX11_day_130 (by decide) ?_
              refine pg_iconst (pc := 132) (v := 3) dX11_day_132 (by decide) ?_
              refine pg_iload_n (pc := 133) (i := 1) (j := 2) (x := v1) dX11_day_133 rfl rfl ?_
              refine pg_imul (pc := 134) dX11_day_134 ?_
              refine pg_iadd (pc := 135) dX11_day_135 ?_
              refine pg_iload_n (pc := 136) (i := 2) (j := 0) (x := x1) dX11_day_136 rfl rfl ?_
              refine pg_if_ne (pc := 137) (tgt := 147) dX11_day_137 (by decide) (fun c6 => ?_) (fun c6 => ?_)
              · skip
                refine pg_iconst (pc := 147) (v := 0) dX11_day_147 (by decide) ?_
                refine pg_iast (pc := 148) h0.2.2.2.2.2.2.2.2.2.2.2.1 (b6 c0 c1 x1 M1 w1 c2 c3 c4 c5 x5 M5 w5 c6) dX11_day_148 ?_
                refine pg_iinc (pc := 149) (i := 1) (j := 2) (x := v1) (v := v1 + 1) (ls' := [(1, .int (v1 + 1)), (2, .int x1), (0, .ref 207)]) dX11_day_149 rfl rfl (by decide) rfl ?_
                refine pg_aload_n (pc := 152) (i := 0) (j := 2) (x := 207) dX11_day_152 rfl rfl ?_
                refine pg_bipush (pc := 153) (v := 59) dX11_day_153 (by decide) ?_
                refine pg_callV (pc := 155) (As := [.int 59]) (st := []) okX11_takeSign lkX11_237 rfl h0.1 rfl (Nat.le_refl _) (Nat.le_of_ble_eq_true rfl) (e5 c0 c1 x1 M1 w1 c2 c3 c4 c5 x5 M5 w5 c6) dX11_day_155 (fun r6 M6 w6 => ?_)
                obtain ⟨rfl, w6⟩ := w6
                refine pg_goto (pc := 158) (tgt := 11) dX11_day_158 (by decide) ?_
                refine pg_drop (ks := [2, 0]) (ls' := [(0, .ref 207), (1, .int (v1 + 1))]) rfl ?_
                exact k6 c0 c1 x1 M1 w1 c2 c3 c4 c5 x5 M5 w5 c6 M6 w6
              · skip
                refine pg_aload_n (pc := 140) (i := 0) (j := 1) (x := 207) dX11_day_140 rfl rfl ?_
                refine pg_callV (pc := 141) (As := []) (st := [.int (102 + (3 * v1)), .ref 218]) okX11_readPegs lkX11_260 rfl h0.1 rfl (Nat.le_refl _) (Nat.le_of_ble_eq_true rfl) (e6 c0 c1 x1 M1 w1 c2 c3 c4 c5 x5 M5 w5 c6) dX11_day_141 (fun r7 M7 w7 => ?_)
                obtain ⟨x7, rfl, w7⟩ := w7
                refine pg_goto (pc := 144) (tgt := 148) dX11_day_144 (by decide) ?_
                refine pg_iast (pc := 148) h0.2.2.2.2.2.2.2.2.2.2.2.1 (b7 c0 c1 x1 M1 w1 c2 c3 c4 c5 x5 M5 w5 c6 x7 M7 w7) dX11_day_148 ?_
                refine pg_iinc (pc := 149) (i := 1) (j := 2) (x := v1) (v := v1 + 1) (ls' := [(1, .int (v1 + 1)), (2, .int x1), (0, .ref 207)]) dX11_day_149 rfl rfl (by decide) rfl ?_
                refine pg_aload_n (pc := 152) (i := 0) (j := 2) (x := 207) dX11_day_152 rfl rfl ?_
                refine pg_bipush (pc := 153) (v := 59) dX11_day_153 (by decide) ?_
                refine pg_callV (pc := 155) (As := [.int 59]) (st := []) okX11_takeSign lkX11_237 rfl h0.1 rfl (Nat.le_refl _) (Nat.le_of_ble_eq_true rfl) (e7 c0 c1 x1 M1 w1 c2 c3 c4 c5 x5 M5 w5 c6 x7 M7 w7) dX11_day_155 (fun r8 M8 w8 => ?_)
                obtain ⟨rfl, w8⟩ := w8
                refine pg_goto (pc := 158) (tgt := 11) dX11_day_158 (by decide) ?_
                refine pg_drop (ks := [2, 0]) (ls' := [(0, .ref 207), (1, .int (v1 + 1))]) rfl ?_
                exact k7 c0 c1 x1 M1 w1 c2 c3 c4 c5 x5 M5 w5 c6 x7 M7 w7 M8 w8
          · skip
            refine pg_aload_n (pc := 101) (i := 0) (j := 1) (x := 207) dX11_day_101 rfl rfl ?_
            refine pg_iconst (pc := 102) (v := 0) dX11_day_102 (by decide) ?_
            refine pg_callV (pc := 103) (As := [.int 0]) (st := [.int (101 + (3 * v1)), .ref 218]) okX11_takeTold lkX11_247 rfl h0.1 rfl (Nat.le_refl _) (Nat.le_of_ble_eq_true rfl) (e8 c0 c1 x1 M1 w1 c2 c3 c4) dX11_day_103 (fun r9 M9 w9 => ?_)
            obtain ⟨x9, rfl, w9⟩ := w9
            refine pg_goto (pc := 106) (tgt := 125) dX11_day_106 (by decide) ?_
            refine pg_iast (pc := 125) h0.2.2.2.2.2.2.2.2.2.2.2.1 (b8 c0 c1 x1 M1 w1 c2 c3 c4 x9 M9 w9) dX11_day_125 ?_
            refine pg_aload_n (pc := 126) (i := 0) (j := 1) (x := 207) dX11_day_126 rfl rfl ?_
            refine gfX11_104 (pc := 127) rfl h0 dX11_day_127 ?_
            refine pg_bipush (pc := 130) (v := 102) dX11_day_130 (by decide) ?_
            refine pg_iconst (pc := 132) (v := 3) dX11_day_132 (by decide) ?_
            refine pg_iload_n (pc := 133) (i := 1) (j := 2) (x := v1) dX11_day_133 rfl rfl ?_
            refine pg_imul (pc := 134) dX11_day_134 ?_
            refine pg_iadd (pc := 135) dX11_day_135 ?_
            refine pg_iload_n (pc := 136) (i := 2) (j := 0) (x := x1) dX11_day_136 rfl rfl ?_
            refine pg_if_ne (pc := 137) (tgt := 147) dX11_day_137 (by decide) (fun c5 => ?_) (fun c5 => ?_)
            · skip
              refine pg_iconst (pc := 147) (v := 0) dX11_day_147 (by decide) ?_
              refine pg_iast (pc := 148) h0.2.2.2.2.2.2.2.2.2.2.2.1 (b9 c0 c1 x1 M1 w1 c2 c3 c4 x9 M9 w9 c5) dX11_day_148 ?_
              refine pg_iinc (pc := 149) (i := 1) (j := 2) (x := v1) (v := v1 + 1) (ls' := [(1, .int (v1 + 1)), (2, .int x1), (0, .ref 207)]) dX11_day_149 rfl rfl (by decide) rfl ?_
              refine pg_aload_n (pc := 152) (i := 0) (j := 2) (x := 207) dX11_day_152 rfl rfl ?_
              refine pg_bipush (pc := 153) (v := 59) dX11_day_153 (by decide) ?_
              refine pg_callV (pc := 155) (As := [.int 59]) (st := []) okX11_takeSign lkX11_237 rfl h0.1 rfl (Nat.le_refl _) (Nat.le_of_ble_eq_true rfl) (e9 c0 c1 x1 M1 w1 c2 c3 c4 x9 M9 w9 c5) dX11_day_155 (fun r10 M10 w10 => ?_)
              obtain ⟨rfl, w10⟩ := w10
              refine pg_goto (pc := 158) (tgt := 11) dX11_day_158 (by decide) ?_
              refine pg_drop (ks := [2, 0]) (ls' := [(0, .ref 207), (1, .int (v1 + 1))]) rfl ?_
              exact k8 c0 c1 x1 M1 w1 c2 c3 c4 x9 M9 w9 c5 M10 w10
            · skip
              refine pg_aload_n (pc := 140) (i := 0) (j := 1) (x := 207) dX11_day_140 rfl rfl ?_
              refine pg_callV (pc := 141) (As := []) (st := [.int (102 + (3 * v1)), .ref 218]) okX11_readPegs lkX11_260 rfl h0.1 rfl (Nat.le_refl _) (Nat.le_of_ble_eq_true rfl) (e10 c0 c1 x1 M1 w1 c2 c3 c4 x9 M9 w9 c5) dX11_day_141 (fun r11 M11 w11 => ?_)
              obtain ⟨x11, rfl, w11⟩ := w11
              refine pg_goto (pc := 144) (tgt := 148) dX11_day_144 (by decide) ?_
              refine pg_iast (pc := 148) h0.2.2.2.2.2.2.2.2.2.2.2.1 (b10 c0 c1 x1 M1 w1 c2 c3 c4 x9 M9 w9 c5 x11 M11 w11) dX11_day_148 ?_
              refine pg_iinc (pc := 149) (i := 1) (j := 2) (x := v1) (v := v1 + 1) (ls' := [(1, .int (v1 + 1)), (2, .int x1), (0, .ref 207)]) dX11_day_149 rfl rfl (by decide) rfl ?_
              refine pg_aload_n (pc := 152) (i := 0) (j := 2) (x := 207) dX11_day_152 rfl rfl ?_
              refine pg_bipush (pc := 153) (v := 59) dX11_day_153 (by decide) ?_
              refine pg_callV (pc := 155) (As := [.int 59]) (st := []) okX11_takeSign lkX11_237 rfl h0.1 rfl (Nat.le_refl _) (Nat.le_of_ble_eq_true rfl) (e11 c0 c1 x1 M1 w1 c2 c3 c4 x9 M9 w9 c5 x11 M11 w11) dX11_day_155 (fun r12 M12 w12 => ?_)
              obtain ⟨rfl, w12⟩ := w12
              refine pg_goto (pc := 158) (tgt := 11) dX11_day_158 (by decide) ?_
              refine pg_drop (ks := [2, 0]) (ls' := [(0, .ref 207), (1, .int (v1 + 1))]) rfl ?_
              exact k9 c0 c1 x1 M1 w1 c2 c3 c4 x9 M9 w9 c5 x11 M11 w11 M12 w12
        · skip
          refine pg_aload_n (pc := 56) (i := 0) (j := 1) (x := 207) dX11_day_56 rfl rfl ?_
          refine pg_iconst (pc := 57) (v := 5) dX11_day_57 (by decide) ?_
          refine pg_callV (pc := 58) (As := [.int 5]) (st := []) okX11_wrong lkX11_183 rfl h0.1 rfl (Nat.le_refl _) (Nat.le_of_ble_eq_true rfl) (e12 c0 c1 x1 M1 w1 c2 c3) dX11_day_58 (fun r13 M13 w13 => ?_)
          obtain ⟨rfl, w13⟩ := w13
          refine pg_goto (pc := 61) (tgt := 152) dX11_day_61 (by decide) ?_
          refine pg_aload_n (pc := 152) (i := 0) (j := 1) (x := 207) dX11_day_152 rfl rfl ?_
          refine pg_bipush (pc := 153) (v := 59) dX11_day_153 (by decide) ?_
          refine pg_callV (pc := 155) (As := [.int 59]) (st := []) okX11_takeSign lkX11_237 rfl h0.1 rfl (Nat.le_refl _) (Nat.le_of_ble_eq_true rfl) (e13 c0 c1 x1 M1 w1 c2 c3 M13 w13) dX11_day_155 (fun r14 M14 w14 => ?_)
          obtain ⟨rfl, w14⟩ := w14
          refine pg_goto (pc := 158) (tgt := 11) dX11_day_158 (by decide) ?_
          refine pg_drop (ks := [1, 2]) (ls' := [(0, .ref 207), (1, .int v1)]) rfl ?_
          exact k10 c0 c1 x1 M1 w1 c2 c3 M13 w13 M14 w14
      · skip
        refine pg_aload_n (pc := 42) (i := 0) (j := 1) (x := 207) dX11_day_42 rfl rfl ?_
        refine pg_iconst (pc := 43) (v := 1) dX11_day_43 (by decide) ?_
        refine pg_callV (pc := 44) (As := [.int 1]) (st := []) okX11_wrong lkX11_183 rfl h0.1 rfl (Nat.le_refl _) (Nat.le_of_ble_eq_true rfl) (e14 c0 c1 x1 M1 w1 c2) dX11_day_44 (fun r15 M15 w15 => ?_)
        obtain ⟨rfl, w15⟩ := w15
        refine pg_goto (pc := 47) (tgt := 152) dX11_day_47 (by decide) ?_
        refine pg_aload_n (pc := 152) (i := 0) (j := 1) (x := 207) dX11_day_152 rfl rfl ?_
        refine pg_bipush (pc := 153) (v := 59) dX11_day_153 (by decide) ?_
        refine pg_callV (pc := 155) (As := [.int 59]) (st := []) okX11_takeSign lkX11_237 rfl h0.1 rfl (Nat.le_refl _) (Nat.le_of_ble_eq_true rfl) (e15 c0 c1 x1 M1 w1 c2 M15 w15) dX11_day_155 (fun r16 M16 w16 => ?_)
        obtain ⟨rfl, w16⟩ := w16
        refine pg_goto (pc := 158) (tgt := 11) dX11_day_158 (by decide) ?_
        refine pg_drop (ks := [1, 2]) (ls' := [(0, .ref 207), (1, .int v1)]) rfl ?_
        exact k11 c0 c1 x1 M1 w1 c2 M15 w15 M16 w16
theorem sX11_day_182 {v1 : Int32} {v2 : Int32} 
    (h0 : pg_isX11 Λ)
    (k0 : ((3 * v1) ≤ v2) → P (some (.int 0)) M)
    (b0 : (¬ (3 * v1) ≤ v2) → vp_in (100 + v2) 200)
    (b1 : (¬ (3 * v1) ≤ v2) → vp_in (1 + v2) 200)
    (k1 : (¬ (3 * v1) ≤ v2) → pg_At S Λ YX11_day (d + 1) 182 [(0, .ref 207), (1, .int v1), (2, .int (v2 + 1))] [] (pg_si M 218 (1 + v2).toNatClampNeg (M.1 218 (100 + v2).toNatClampNeg)) P) :
    pg_At S Λ YX11_day (d + 1) 182 [(0, .ref 207), (1, .int v1), (2, .int v2)] [] M P := by
  refine pg_iload_n (pc := 182) (i := 2) (j := 2) (x := v2) dX11_day_182 rfl rfl ?_
  refine pg_iconst (pc := 183) (v := 3) dX11_day_183 (by decide) ?_
  refine pg_iload_n (pc := 184) (i := 1) (j := 1) (x := v1) dX11_day_184 rfl rfl ?_
  refine pg_imul (pc := 185) dX11_day_185 ?_
  refine pg_icmp_ge (pc := 186) (tgt := 212) dX11_day_186 (by decide) (fun c0 => ?_) (fun c0 => ?_)
  · skip
    refine pg_iconst (pc := 212) (v := 0) dX11_day_212 (by decide) ?_
    exact pg_iret (pc := 213) rfl dX11_day_213 (k0 c0)
  · skip
    refine pg_aload_n (pc := 189) (i := 0) (j := 0) (x := 207) dX11_day_189 rfl rfl ?_
    refine gfX11_104 (pc := 190) rfl h0 dX11_day_190 ?_
    refine pg_iconst (pc := 193) (v := 1) dX11_day_193 (by decide) ?_
    refine pg_iload_n (pc := 194) (i := 2) (j := 2) (x := v2) dX11_day_194 rfl rfl ?_
    refine pg_iadd (pc := 195) dX11_day_195 ?_
    refine pg_aload_n (pc := 196) (i := 0) (j := 0) (x := 207) dX11_day_196 rfl rfl ?_
    refine gfX11_104 (pc := 197) rfl h0 dX11_day_197 ?_
    refine pg_bipush (pc := 200) (v := 100) dX11_day_200 (by decide) ?_
    refine pg_iload_n (pc := 202) (i := 2) (j := 2) (x := v2) dX11_day_202 rfl rfl ?_
    refine pg_iadd (pc := 203) dX11_day_203 ?_
    refine pg_iald (pc := 204) h0.2.2.2.2.2.2.2.2.2.2.2.1 (b0 c0) dX11_day_204 ?_
    refine pg_iast (pc := 205) h0.2.2.2.2.2.2.2.2.2.2.2.1 (b1 c0) dX11_day_205 ?_
    refine pg_iinc (pc := 206) (i := 2) (j := 2) (x := v2) (v := v2 + 1) (ls' := [(2, .int (v2 + 1)), (0, .ref 207), (1, .int v1)]) dX11_day_206 rfl rfl (by decide) rfl ?_
    refine pg_goto (pc := 209) (tgt := 182) dX11_day_209 (by decide) ?_
    refine pg_drop (ks := [1, 2, 0]) (ls' := [(0, .ref 207), (1, .int v1), (2, .int (v2 + 1))]) rfl ?_
    exact k1 c0
theorem oX11_day {d : Nat}  (h : pg_At S Λ YX11_day d 0 [(0, .ref 207)] [] M P) : pg_Ev S Λ YX11_day d [.ref 207] M P := pg_Ev.of (by decide) (by first | decide | exact Nat.le_of_ble_eq_true rfl) h
theorem sX11_readPegs_0  
    (k0 : pg_At S Λ YX11_readPegs (d + 1) 4 [(0, .ref 207), (1, .int 0), (2, .int 0)] [] M P) :
    pg_At S Λ YX11_readPegs (d + 1) 0 [(0, .ref 207)] [] M P := by
  refine pg_iconst (pc := 0) (v := 0) dX11_readPegs_0 (by decide) ?_
  refine pg_istore_n (pc := 1) (i := 1) (ls' := [(1, .int 0), (0, .ref 207)]) dX11_readPegs_1 rfl (by decide) rfl ?_
  refine pg_iconst (pc := 2) (v := 0) dX11_readPegs_2 (by decide) ?_
  refine pg_istore_n (pc := 3) (i := 2) (ls' := [(2, .int 0), (1, .int 0), (0, .ref 207)]) dX11_readPegs_3 rfl (by decide) rfl ?_
  refine pg_drop (ks := [2, 1, 0]) (ls' := [(0, .ref 207), (1, .int 0), (2, .int 0)]) rfl ?_
  exact k0
theorem sX11_readPegs_4 {v1 : Int32} {v2 : Int32} 
    (h0 : pg_isX11 Λ)
    (k0 : (¬ (M.1 207 8) = 0) → P (some (.int v1)) M)
    (k1 : ((M.1 207 8) = 0) → (v2 = 0) → pg_At S Λ YX11_readPegs (d + 1) 28 [(0, .ref 207), (1, .int v1), (2, .int v2)] [] M P)
    (b0 : ((M.1 207 8) = 0) → (¬ v2 = 0) → vp_in (M.1 207 7) 1002)
    (k2 : ((M.1 207 8) = 0) → (¬ v2 = 0) → (¬ (M.1 209 (M.1 207 7).toNatClampNeg) = 2) → P (some (.int v1)) M)
    (k3 : ((M.1 207 8) = 0) → (¬ v2 = 0) → ((M.1 209 (M.1 207 7).toNatClampNeg) = 2) → pg_At S Λ YX11_readPegs (d + 1) 28 [(0, .ref 207), (1, .int v1), (2, .int v2)] [] M P) :
    pg_At S Λ YX11_readPegs (d + 1) 4 [(0, .ref 207), (1, .int v1), (2, .int v2)] [] M P := by
  refine pg_aload_n (pc := 4) (i := 0) (j := 0) (x := 207) dX11_readPegs_4 rfl rfl ?_
  refine gfX11_177 (pc := 5) rfl h0 dX11_readPegs_5 ?_
  refine pg_if_ne (pc := 8) (tgt := 101) dX11_readPegs_8 (by decide) (fun c0 => ?_) (fun c0 => ?_)
  · skip
    refine pg_iload_n (pc := 101) (i := 1) (j := 1) (x := v1) dX11_readPegs_101 rfl rfl ?_
    exact pg_iret (pc := 102) rfl dX11_readPegs_102 (k0 c0)
  · skip
    refine pg_iload_n (pc := 11) (i := 2) (j := 2) (x := v2) dX11_readPegs_11 rfl rfl ?_
    refine pg_if_eq (pc := 12) (tgt := 28) dX11_readPegs_12 (by decide) (fun c1 => ?_) (fun c1 => ?_)
    · skip
      exact k1 c0 c1
    · skip
      refine pg_aload_n (pc := 15) (i := 0) (j := 0) (x := 207) dX11_readPegs_15 rfl rfl ?_
      refine gfX11_24 (pc := 16) rfl h0 dX11_readPegs_16 ?_
      refine pg_aload_n (pc := 19) (i := 0) (j := 0) (x := 207) dX11_readPegs_19 rfl rfl ?_
      refine gfX11_174 (pc := 20) rfl h0 dX11_readPegs_20 ?_
      refine pg_iald (pc := 23) h0.2.2.1 (b0 c0 c1) dX11_readPegs_23 ?_
      refine pg_iconst (pc := 24) (v := 2) dX11_readPegs_24 (by decide) ?_
      refine pg_icmp_ne (pc := 25) (tgt := 101) dX11_readPegs_25 (by decide) (fun c2 => ?_) (fun c2 => ?_)
      · skip
        refine pg_iload_n (pc := 101) (i := 1) (j := 1) (x := v1) dX11_readPegs_101 rfl rfl ?_
        exact pg_iret (pc := 102) rfl dX11_readPegs_102 (k2 c0 c1 c2)
      · skip
        exact k3 c0 c1 c2
theorem sX11_readPegs_28 {v1 : Int32} {v2 : Int32} {Q0 : Int32 → pg_M → Prop} {Q1 : pg_M → Prop} {Q2 : pg_M → Prop}
    (h0 : pg_isX11 Λ)
    (e0 : pg_Ev S Λ YX11_takeNumber d [.ref 207, .int 0, .int 7] M (fun r M' => ∃ x, r = some (.int x) ∧ Q0 x M'))
    (k0 : ∀ x1 M1, Q0 x1 M1 → (¬ ((v1 >>> (x1 &&& 31)) &&& 1) = 1) → (¬ v2 = 4) → (¬ (M1.1 207 8) = 0) → pg_At S Λ YX11_readPegs (d + 1) 4 [(0, .ref 207), (1, .int (v1 ||| ((1 : Int32) <<< (x1 &&& 31)))), (2, .int (v2 + 1))] [] M1 P)
    (k1 : ∀ x1 M1, Q0 x1 M1 → (¬ ((v1 >>> (x1 &&& 31)) &&& 1) = 1) → (¬ v2 = 4) → ((M1.1 207 8) = 0) → pg_At S Λ YX11_readPegs (d + 1) 4 [(0, .ref 207), (1, .int (v1 ||| ((1 : Int32) <<< (x1 &&& 31)))), (2, .int (v2 + 1))] [] M1 P)
    (k2 : ∀ x1 M1, Q0 x1 M1 → (¬ ((v1 >>> (x1 &&& 31)) &&& 1) = 1) → (v2 = 4) → (¬ (M1.1 207 8) = 0) → pg_At S Λ YX11_readPegs (d + 1) 4 [(0, .ref 207), (1, .int (v1 ||| ((1 : Int32) <<< (x1 &&& 31)))), (2, .int (v2 + 1))] [] M1 P)
    (e1 : ∀ x1 M1, Q0 x1 M1 → (¬ ((v1 >>> (x1 &&& 31)) &&& 1) = 1) → (v2 = 4) → ((M1.1 207 8) = 0) → pg_Ev S Λ YX11_wrong d [.ref 207, .int 5] (pg_si M1 207 7 ((M1.1 207 7) - 1)) (fun r M' => r = none ∧ Q1 M'))
    (k3 : ∀ x1 M1, Q0 x1 M1 → (¬ ((v1 >>> (x1 &&& 31)) &&& 1) = 1) → (v2 = 4) → ((M1.1 207 8) = 0) → ∀ M2, Q1 M2 → pg_At S Λ YX11_readPegs (d + 1) 4 [(0, .ref 207), (1, .int (v1 ||| ((1 : Int32) <<< (x1 &&& 31)))), (2, .int (v2 + 1))] [] M2 P)
    (k4 : ∀ x1 M1, Q0 x1 M1 → (((v1 >>> (x1 &&& 31)) &&& 1) = 1) → (¬ (M1.1 207 8) = 0) → pg_At S Λ YX11_readPegs (d + 1) 4 [(0, .ref 207), (1, .int (v1 ||| ((1 : Int32) <<< (x1 &&& 31)))), (2, .int (v2 + 1))] [] M1 P)
    (e2 : ∀ x1 M1, Q0 x1 M1 → (((v1 >>> (x1 &&& 31)) &&& 1) = 1) → ((M1.1 207 8) = 0) → pg_Ev S Λ YX11_wrong d [.ref 207, .int 3] (pg_si M1 207 7 ((M1.1 207 7) - 1)) (fun r M' => r = none ∧ Q2 M'))
    (k5 : ∀ x1 M1, Q0 x1 M1 → (((v1 >>> (x1 &&& 31)) &&& 1) = 1) → ((M1.1 207 8) = 0) → ∀ M3, Q2 M3 → pg_At S Λ YX11_readPegs (d + 1) 4 [(0, .ref 207), (1, .int (v1 ||| ((1 : Int32) <<< (x1 &&& 31)))), (2, .int (v2 + 1))] [] M3 P) :
    pg_At S Λ YX11_readPegs (d + 1) 28 [(0, .ref 207), (1, .int v1), (2, .int v2)] [] M P := by
  refine pg_aload_n (pc := 28) (i := 0) (j := 0) (x := 207) dX11_readPegs_28 rfl rfl ?_
  refine pg_iconst (pc := 29) (v := 0) dX11_readPegs_29 (by decide) ?_
  refine pg_bipush (pc := 30) (v := 7) dX11_readPegs_30 (by decide) ?_
  refine pg_callV (pc := 32) (As := [.int 0, .int 7]) (st := []) okX11_takeNumber lkX11_195 rfl h0.1 rfl (Nat.le_refl _) (Nat.le_of_ble_eq_true rfl) e0 dX11_readPegs_32 (fun r1 M1 w1 => ?_)
  obtain ⟨x1, rfl, w1⟩ := w1
  refine pg_istore_n (pc := 35) (i := 3) (ls' := [(3, .int x1), (0, .ref 207), (1, .int v1), (2, .int v2)]) dX11_readPegs_35 rfl (by decide) rfl ?_
  refine pg_iload_n (pc := 36) (i := 1) (j := 2) (x := v1) dX11_readPegs_36 rfl rfl ?_
  refine pg_iload_n (pc := 37) (i := 3) (j := 0) (x := x1) dX11_readPegs_37 rfl rfl ?_
  refine pg_ishr (pc := 38) dX11_readPegs_38 ?_
  refine pg_iconst (pc := 39) (v := 1) dX11_readPegs_39 (by decide) ?_
  refine pg_iand (pc := 40) dX11_readPegs_40 ?_
  refine pg_iconst (pc := 41) (v := 1) dX11_readPegs_41 (by decide) ?_
  refine pg_icmp_ne (pc := 42) (tgt := 49) dX11_readPegs_42 (by decide) (fun c0 => ?_) (fun c0 => ?_)
  · skip
    refine pg_iload_n (pc := 49) (i := 2) (j := 3) (x := v2) dX11_readPegs_49 rfl rfl ?_
    refine pg_iconst (pc := 50) (v := 4) dX11_readPegs_50 (by decide) ?_
    refine pg_icmp_ne (pc := 51) (tgt := 58) dX11_readPegs_51 (by decide) (fun c1 => ?_) (fun c1 => ?_)
    · skip
      refine pg_iconst (pc := 58) (v := 0) dX11_readPegs_58 (by decide) ?_
      refine pg_istore (pc := 59) (i := 4) (ls' := [(4, .int 0), (3, .int x1), (0, .ref 207), (1, .int v1), (2, .int v2)]) dX11_readPegs_59 (by decide) rfl ?_
      refine pg_aload_n (pc := 61) (i := 0) (j := 2) (x := 207) dX11_readPegs_61 rfl rfl ?_
      refine gfX11_177 (pc := 62) rfl h0 dX11_readPegs_62 ?_
      refine pg_if_ne (pc := 65) (tgt := 89) dX11_readPegs_65 (by decide) (fun c2 => ?_) (fun c2 => ?_)
      · skip
        refine pg_iload_n (pc := 89) (i := 1) (j := 3) (x := v1) dX11_readPegs_89 rfl rfl ?_
        refine pg_iconst (pc := 90) (v := 1) dX11_readPegs_90 (by decide) ?_
        refine pg_iload_n (pc := 91) (i := 3) (j := 1) (x := x1) dX11_readPegs_91 rfl rfl ?_
        refine pg_ishl (pc := 92) dX11_readPegs_92 ?_
        refine pg_ior (pc := 93) dX11_readPegs_93 ?_
        refine pg_istore_n (pc := 94) (i := 1) (ls' := [(1, .int (v1 ||| ((1 : Int32) <<< (x1 &&& 31)))), (4, .int 0), (3, .int x1), (0, .ref 207), (2, .int v2)]) dX11_readPegs_94 rfl (by decide) rfl ?_
        refine pg_iinc (pc := 95) (i := 2) (j := 4) (x := v2) (v := v2 + 1) (ls' := [(2, .int (v2 + 1)), (1, .int (v1 ||| ((1 : Int32) <<< (x1 &&& 31)))), (4, .int 0), (3, .int x1), (0, .ref 207)]) dX11_readPegs_95 rfl rfl (by decide) rfl ?_
        refine pg_goto (pc := 98) (tgt := 4) dX11_readPegs_98 (by decide) ?_
        refine pg_drop (ks := [4, 1, 0]) (ls' := [(0, .ref 207), (1, .int (v1 ||| ((1 : Int32) <<< (x1 &&& 31)))), (2, .int (v2 + 1))]) rfl ?_
        exact k0 x1 M1 w1 c0 c1 c2
      · skip
        refine pg_iload (pc := 68) (i := 4) (j := 0) (x := 0) dX11_readPegs_68 rfl ?_
        refine pg_if_le (pc := 70) (tgt := 89) dX11_readPegs_70 (by decide) (fun c3 => ?_) (fun c3 => ?_)
        · skip
          refine pg_iload_n (pc := 89) (i := 1) (j := 3) (x := v1) dX11_readPegs_89 rfl rfl ?_
          refine pg_iconst (pc := 90) (v := 1) dX11_readPegs_90 (by decide) ?_
          refine pg_iload_n (pc := 91) (i := 3) (j := 1) (x := x1) dX11_readPegs_91 rfl rfl ?_
          refine pg_ishl (pc := 92) dX11_readPegs_92 ?_
          refine pg_ior (pc := 93) dX11_readPegs_93 ?_
          refine pg_istore_n (pc := 94) (i := 1) (ls' := [(1, .int (v1 ||| ((1 : Int32) <<< (x1 &&& 31)))), (4, .int 0), (3, .int x1), (0, .ref 207), (2, .int v2)]) dX11_readPegs_94 rfl (by decide) rfl ?_
          refine pg_iinc (pc := 95) (i := 2) (j := 4) (x := v2) (v := v2 + 1) (ls' := [(2, .int (v2 + 1)), (1, .int (v1 ||| ((1 : Int32) <<< (x1 &&& 31)))), (4, .int 0), (3, .int x1), (0, .ref 207)]) dX11_readPegs_95 rfl rfl (by decide) rfl ?_
          refine pg_goto (pc := 98) (tgt := 4) dX11_readPegs_98 (by decide) ?_
          refine pg_drop (ks := [4, 1, 0]) (ls' := [(0, .ref 207), (1, .int (v1 ||| ((1 : Int32) <<< (x1 &&& 31)))), (2, .int (v2 + 1))]) rfl ?_
          exact k1 x1 M1 w1 c0 c1 c2
        · skip
          exact absurd c3 (by decide)
    · skip
      refine pg_iconst (pc := 54) (v := 5) dX11_readPegs_54 (by decide) ?_
      refine pg_goto (pc := 55) (tgt := 59) dX11_readPegs_55 (by decide) ?_
      refine pg_istore (pc := 59) (i := 4) (ls' := [(4, .int 5), (3, .int x1), (0, .ref 207), (1, .int v1), (2, .int v2)]) dX11_readPegs_59 (by decide) rfl ?_
      refine pg_aload_n (pc := 61) (i := 0) (j := 2) (x := 207) dX11_readPegs_61 rfl rfl ?_
      refine gfX11_177 (pc := 62) rfl h0 dX11_readPegs_62 ?_
      refine pg_if_ne (pc := 65) (tgt := 89) dX11_readPegs_65 (by decide) (fun c2 => ?_) (fun c2 => ?_)
      · skip
        refine pg_iload_n (pc := 89) (i := 1) (j := 3) (x := v1) dX11_readPegs_89 rfl rfl ?_
        refine pg_iconst (pc := 90) (v := 1) dX11_readPegs_90 (by decide) ?_
        refine pg_iload_n (pc := 91) (i := 3) (j := 1) (x := x1) dX11_readPegs_91 rfl rfl ?_
        refine pg_ishl (pc := 92) dX11_readPegs_92 ?_
        refine pg_ior (pc := 93) dX11_readPegs_93 ?_
        refine pg_istore_n (pc := 94) (i := 1) (ls' := [(1, .int (v1 ||| ((1 : Int32) <<< (x1 &&& 31)))), (4, .int 5), (3, .int x1), (0, .ref 207), (2, .int v2)]) dX11_readPegs_94 rfl (by decide) rfl ?_
        refine pg_iinc (pc := 95) (i := 2) (j := 4) (x := v2) (v := v2 + 1) (ls' := [(2, .int (v2 + 1)), (1, .int (v1 ||| ((1 : Int32) <<< (x1 &&& 31)))), (4, .int 5), (3, .int x1), (0, .ref 207)]) dX11_readPegs_95 rfl rfl (by decide) rfl ?_
        refine pg_goto (pc := 98) (tgt := 4) dX11_readPegs_98 (by decide) ?_
        refine pg_drop (ks := [4, 1, 0]) (ls' := [(0, .ref 207), (1, .int (v1 ||| ((1 : Int32) <<< (x1 &&& 31)))), (2, .int (v2 + 1))]) rfl ?_
        exact k2 x1 M1 w1 c0 c1 c2
      · skip
        refine pg_iload (pc := 68) (i := 4) (j := 0) (x := 5) dX11_readPegs_68 rfl ?_
        refine pg_if_le (pc := 70) (tgt := 89) dX11_readPegs_70 (by decide) (fun c3 => ?_) (fun c3 => ?_)
        · skip
          exact absurd c3 (by decide)
        · skip
          refine pg_aload_n (pc := 73) (i := 0) (j := 2) (x := 207) dX11_readPegs_73 rfl rfl ?_
          refine pg_dup (pc := 74) dX11_readPegs_74 rfl ?_
          refine gfX11_174 (pc := 75) rfl h0 dX11_readPegs_75 ?_
          refine pg_iconst (pc := 78) (v := 1) dX11_readPegs_78 (by decide) ?_
          refine pg_isub (pc := 79) dX11_readPegs_79 ?_
          refine pfX11_174 (pc := 80) rfl h0 dX11_readPegs_80 ?_
          refine pg_aload_n (pc := 83) (i := 0) (j := 2) (x := 207) dX11_readPegs_83 rfl rfl ?_
          refine pg_iload (pc := 84) (i := 4) (j := 0) (x := 5) dX11_readPegs_84 rfl ?_
          refine pg_callV (pc := 86) (As := [.int 5]) (st := []) okX11_wrong lkX11_183 rfl h0.1 rfl (Nat.le_refl _) (Nat.le_of_ble_eq_true rfl) (e1 x1 M1 w1 c0 c1 c2) dX11_readPegs_86 (fun r2 M2 w2 => ?_)
          obtain ⟨rfl, w2⟩ := w2
          refine pg_iload_n (pc := 89) (i := 1) (j := 3) (x := v1) dX11_readPegs_89 rfl rfl ?_
          refine pg_iconst (pc := 90) (v := 1) dX11_readPegs_90 (by decide) ?_
          refine pg_iload_n (pc := 91) (i := 3) (j := 1) (x := x1) dX11_readPegs_91 rfl rfl ?_
          refine pg_ishl (pc := 92) dX11_readPegs_92 ?_
          refine pg_ior (pc := 93) dX11_readPegs_93 ?_
          refine pg_istore_n (pc := 94) (i := 1) (ls' := [(1, .int (v1 ||| ((1 : Int32) <<< (x1 &&& 31)))), (4, .int 5), (3, .int x1), (0, .ref 207), (2, .int v2)]) dX11_readPegs_94 rfl (by decide) rfl ?_
          refine pg_iinc (pc := 95) (i := 2) (j := 4) (x := v2) (v := v2 + 1) (ls' := [(2, .int (v2 + 1)), (1, .int (v1 ||| ((1 : Int32) <<< (x1 &&& 31)))), (4, .int 5), (3, .int x1), (0, .ref 207)]) dX11_readPegs_95 rfl rfl (by decide) rfl ?_
          refine pg_goto (pc := 98) (tgt := 4) dX11_readPegs_98 (by decide) ?_
          refine pg_drop (ks := [4, 1, 0]) (ls' := [(0, .ref 207), (1, .int (v1 ||| ((1 : Int32) <<< (x1 &&& 31)))), (2, .int (v2 + 1))]) rfl ?_
          exact k3 x1 M1 w1 c0 c1 c2 M2 w2
  · skip
    refine pg_iconst (pc := 45) (v := 3) dX11_readPegs_45 (by decide) ?_
    refine pg_goto (pc := 46) (tgt := 59) dX11_readPegs_46 (by decide) ?_
    refine pg_istore (pc := 59) (i := 4) (ls' := [(4, .int 3), (3, .int x1), (0, .ref 207), (1, .int v1), (2, .int v2)]) dX11_readPegs_59 (by decide) rfl ?_
    refine pg_aload_n (pc := 61) (i := 0) (j := 2) (x := 207) dX11_readPegs_61 rfl rfl ?_
    refine gfX11_177 (pc := 62) rfl h0 dX11_readPegs_62 ?_
    refine pg_if_ne (pc := 65) (tgt := 89) dX11_readPegs_65 (by decide) (fun c1 => ?_) (fun c1 => ?_)
    · skip
      refine pg_iload_n (pc := 89) (i := 1) (j := 3) (x := v1) dX11_readPegs_89 rfl rfl ?_
      refine pg_iconst (pc := 90) (v := 1) dX11_readPegs_90 (by decide) ?_
      refine pg_iload_n (pc := 91) (i := 3) (j := 1) (x := x1) dX11_readPegs_91 rfl rfl ?_
      refine pg_ishl (pc := 92) dX11_readPegs_92 ?_
      refine pg_ior (pc := 93) dX11_readPegs_93 ?_
      refine pg_istore_n (pc := 94) (i := 1) (ls' := [(1, .int (v1 ||| ((1 : Int32) <<< (x1 &&& 31)))), (4, .int 3), (3, .int x1), (0, .ref 207), (2, .int v2)]) dX11_readPegs_94 rfl (by decide) rfl ?_
      refine pg_iinc (pc := 95) (i := 2) (j := 4) (x := v2) (v := v2 + 1) (ls' := [(2, .int (v2 + 1)), (1, .int (v1 ||| ((1 : Int32) <<< (x1 &&& 31)))), (4, .int 3), (3, .int x1), (0, .ref 207)]) dX11_readPegs_95 rfl rfl (by decide) rfl ?_
      refine pg_goto (pc := 98) (tgt := 4) dX11_readPegs_98 (by decide) ?_
      refine pg_drop (ks := [4, 1, 0]) (ls' := [(0, .ref 207), (1, .int (v1 ||| ((1 : Int32) <<< (x1 &&& 31)))), (2, .int (v2 + 1))]) rfl ?_
      exact k4 x1 M1 w1 c0 c1
    · skip
      refine pg_iload (pc := 68) (i := 4) (j := 0) (x := 3) dX11_readPegs_68 rfl ?_
      refine pg_if_le (pc := 70) (tgt := 89) dX11_readPegs_70 (by decide) (fun c2 => ?_) (fun c2 => ?_)
      · skip
        exact absurd c2 (by decide)
      · skip
        refine pg_aload_n (pc := 73) (i := 0) (j := 2) (x := 207) dX11_readPegs_73 rfl rfl ?_
        refine pg_dup (pc := 74) dX11_readPegs_74 rfl ?_
        refine gfX11_174 (pc := 75) rfl h0 dX11_readPegs_75 ?_
        refine pg_iconst (pc := 78) (v := 1) dX11_readPegs_78 (by decide) ?_
        refine pg_isub (pc := 79) dX11_readPegs_79 ?_
        refine pfX11_174 (pc := 80) rfl h0 dX11_readPegs_80 ?_
        refine pg_aload_n (pc := 83) (i := 0) (j := 2) (x := 207) dX11_readPegs_83 rfl rfl ?_
        refine pg_iload (pc := 84) (i := 4) (j := 0) (x := 3) dX11_readPegs_84 rfl ?_
        refine pg_callV (pc := 86) (As := [.int 3]) (st := []) okX11_wrong lkX11_183 rfl h0.1 rfl (Nat.le_refl _) (Nat.le_of_ble_eq_true rfl) (e2 x1 M1 w1 c0 c1) dX11_readPegs_86 (fun r3 M3 w3 => ?_)
        obtain ⟨rfl, w3⟩ := w3
        refine pg_iload_n (pc := 89) (i := 1) (j := 3) (x := v1) dX11_readPegs_89 rfl rfl ?_
        refine pg_iconst (pc := 90) (v := 1) dX11_readPegs_90 (by decide) ?_
        refine pg_iload_n (pc := 91) (i := 3) (j := 1) (x := x1) dX11_readPegs_91 rfl rfl ?_
        refine pg_ishl (pc := 92) dX11_readPegs_92 ?_
        refine pg_ior (pc := 93) dX11_readPegs_93 ?_
        refine pg_istore_n (pc := 94) (i := 1) (ls' := [(1, .int (v1 ||| ((1 : Int32) <<< (x1 &&& 31)))), (4, .int 3), (3, .int x1), (0, .ref 207), (2, .int v2)]) dX11_readPegs_94 rfl (by decide) rfl ?_
        refine pg_iinc (pc := 95) (i := 2) (j := 4) (x := v2) (v := v2 + 1) (ls' := [(2, .int (v2 + 1)), (1, .int (v1 ||| ((1 : Int32) <<< (x1 &&& 31)))), (4, .int 3), (3, .int x1), (0, .ref 207)]) dX11_readPegs_95 rfl rfl (by decide) rfl ?_
        refine pg_goto (pc := 98) (tgt := 4) dX11_readPegs_98 (by decide) ?_
        refine pg_drop (ks := [4, 1, 0]) (ls' := [(0, .ref 207), (1, .int (v1 ||| ((1 : Int32) <<< (x1 &&& 31)))), (2, .int (v2 + 1))]) rfl ?_
        exact k5 x1 M1 w1 c0 c1 M3 w3
theorem oX11_readPegs {d : Nat}  (h : pg_At S Λ YX11_readPegs d 0 [(0, .ref 207)] [] M P) : pg_Ev S Λ YX11_readPegs d [.ref 207] M P := pg_Ev.of (by decide) (by first | decide | exact Nat.le_of_ble_eq_true rfl) h
theorem sX11_emit_0 {v1 : Int32} {v2 : Int32} 
    (h0 : pg_isX11 Λ)
    (b0 : vp_in (1100 + (M.1 207 13)) 2200)
    (b1 : vp_in (1100 + ((pg_si M 214 (1100 + (M.1 207 13)).toNatClampNeg v1).1 207 13)) 2200)
    (k0 : ∀ N1, N1 = pg_si (pg_si M 214 (1100 + (M.1 207 13)).toNatClampNeg v1) 215 (1100 + ((pg_si M 214 (1100 + (M.1 207 13)).toNatClampNeg v1).1 207 13)).toNatClampNeg v2 → P none (pg_si N1 207 13 ((N1.1 207 13) + 1))) :
    pg_At S Λ YX11_emit d 0 [(0, .ref 207), (1, .int v1), (2, .int v2)] [] M P := by
  refine pg_aload_n (pc := 0) (i := 0) (j := 0) (x := 207) dX11_emit_0 rfl rfl ?_
  refine gfX11_92 (pc := 1) rfl h0 dX11_emit_1 ?_
  refine pg_sipush (pc := 4) (v := 1100) dX11_emit_4 (by decide) ?_
  refine pg_aload_n (pc := 7) (i := 0) (j := 0) (x := 207) dX11_emit_7 rfl rfl ?_
  refine gfX11_222 (pc := 8) rfl h0 dX11_emit_8 ?_
  refine pg_iadd (pc := 11) dX11_emit_11 ?_
  refine pg_iload_n (pc := 12) (i := 1) (j := 1) (x := v1) dX11_emit_12 rfl rfl ?_
  refine pg_iast (pc := 13) h0.2.2.2.2.2.2.2.1 b0 dX11_emit_13 ?_
  refine pg_aload_n (pc := 14) (i := 0) (j := 0) (x := 207) dX11_emit_14 rfl rfl ?_
  refine gfX11_95 (pc := 15) rfl h0 dX11_emit_15 ?_
  refine pg_sipush (pc := 18) (v := 1100) dX11_emit_18 (by decide) ?_
  refine pg_aload_n (pc := 21) (i := 0) (j := 0) (x := 207) dX11_emit_21 rfl rfl ?_
  refine gfX11_222 (pc := 22) rfl h0 dX11_emit_22 ?_
  refine pg_iadd (pc := 25) dX11_emit_25 ?_
  refine pg_iload_n (pc := 26) (i := 2) (j := 2) (x := v2) dX11_emit_26 rfl rfl ?_
  refine pg_iast (pc := 27) h0.2.2.2.2.2.2.2.2.1 b1 dX11_emit_27 ?_
  refine pg_named (fun N1 u1 => ?_)
  refine pg_aload_n (pc := 28) (i := 0) (j := 0) (x := 207) dX11_emit_28 rfl rfl ?_
  refine pg_dup (pc := 29) dX11_emit_29 rfl ?_
  refine gfX11_222 (pc := 30) rfl h0 dX11_emit_30 ?_
  refine pg_iconst (pc := 33) (v := 1) dX11_emit_33 (by decide) ?_
  refine pg_iadd (pc := 34) dX11_emit_34 ?_
  refine pfX11_222 (pc := 35) rfl h0 dX11_emit_35 ?_
  exact pg_vret (pc := 38) rfl dX11_emit_38 (k0 N1 u1)
theorem oX11_emit {d : Nat} {v1 : Int32} {v2 : Int32} (h : pg_At S Λ YX11_emit d 0 [(0, .ref 207), (1, .int v1), (2, .int v2)] [] M P) : pg_Ev S Λ YX11_emit d [.ref 207, .int v1, .int v2] M P := pg_Ev.of (by decide) (by first | decide | exact Nat.le_of_ble_eq_true rfl) h
theorem sX11_all_0 {v1 : Int32} {Q0 : pg_M → Prop}
    (h0 : pg_isX11 Λ)
    (e0 : pg_Ev S Λ YX11_test d [.ref 207, .int v1] M (fun r M' => r = none ∧ Q0 M'))
    (k0 : ∀ M1, Q0 M1 → pg_At S Λ YX11_all (d + 1) 5 [(0, .ref 207), (1, .int v1)] [] M1 P) :
    pg_At S Λ YX11_all (d + 1) 0 [(0, .ref 207), (1, .int v1)] [] M P := by
  refine pg_aload_n (pc := 0) (i := 0) (j := 0) (x := 207) dX11_all_0 rfl rfl ?_
  refine pg_iload_n (pc := 1) (i := 1) (j := 1) (x := v1) dX11_all_1 rfl rfl ?_
  refine pg_callV (pc := 2) (As := [.int v1]) (st := []) okX11_test lkX11_264 rfl h0.1 rfl (Nat.le_refl _) (Nat.le_of_ble_eq_true rfl) e0 dX11_all_2 (fun r1 M1 w1 => ?_)
  obtain ⟨rfl, w1⟩ := w1
  exact k0 M1 w1
theorem sX11_all_5 {v1 : Int32} {Q0 : Int32 → pg_M → Prop} {Q1 : Int32 → pg_M → Prop} {Q2 : pg_M → Prop} {Q3 : pg_M → Prop} {Q4 : pg_M → Prop} {Q5 : Int32 → pg_M → Prop} {Q6 : Int32 → pg_M → Prop} {Q7 : pg_M → Prop} {Q8 : pg_M → Prop} {Q9 : pg_M → Prop}
    (h0 : pg_isX11 Λ)
    (e0 : pg_Ev S Λ YX11_isWord d [.ref 207, .int 21] M (fun r M' => ∃ x, r = some (.int x) ∧ Q0 x M'))
    (e1 : ∀ x1 M1, Q0 x1 M1 → (¬ x1 = 0) → pg_Ev S Λ YX11_isWord d [.ref 207, .int 21] M1 (fun r M' => ∃ x, r = some (.int x) ∧ Q1 x M'))
    (e2 : ∀ x1 M1, Q0 x1 M1 → (¬ x1 = 0) → ∀ x2 M2, Q1 x2 M2 → pg_Ev S Λ YX11_test d [.ref 207, .int v1] (pg_si M2 207 7 ((M2.1 207 7) + 1)) (fun r M' => r = none ∧ Q2 M'))
    (e3 : ∀ x1 M1, Q0 x1 M1 → (¬ x1 = 0) → ∀ x2 M2, Q1 x2 M2 → ∀ M3, Q2 M3 → (x2 = 0) → pg_Ev S Λ YX11_emit d [.ref 207, .int 10, .int 0] M3 (fun r M' => r = none ∧ Q3 M'))
    (k0 : ∀ x1 M1, Q0 x1 M1 → (¬ x1 = 0) → ∀ x2 M2, Q1 x2 M2 → ∀ M3, Q2 M3 → (x2 = 0) → ∀ M4, Q3 M4 → pg_At S Λ YX11_all (d + 1) 5 [(0, .ref 207), (1, .int v1)] [] M4 P)
    (e4 : ∀ x1 M1, Q0 x1 M1 → (¬ x1 = 0) → ∀ x2 M2, Q1 x2 M2 → ∀ M3, Q2 M3 → (¬ x2 = 0) → pg_Ev S Λ YX11_emit d [.ref 207, .int 9, .int 0] M3 (fun r M' => r = none ∧ Q4 M'))
    (k1 : ∀ x1 M1, Q0 x1 M1 → (¬ x1 = 0) → ∀ x2 M2, Q1 x2 M2 → ∀ M3, Q2 M3 → (¬ x2 = 0) → ∀ M5, Q4 M5 → pg_At S Λ YX11_all (d + 1) 5 [(0, .ref 207), (1, .int v1)] [] M5 P)
    (e5 : ∀ x1 M1, Q0 x1 M1 → (x1 = 0) → pg_Ev S Λ YX11_isWord d [.ref 207, .int 22] M1 (fun r M' => ∃ x, r = some (.int x) ∧ Q5 x M'))
    (k2 : ∀ x1 M1, Q0 x1 M1 → (x1 = 0) → ∀ x6 M6, Q5 x6 M6 → (x6 = 0) → P none M6)
    (e6 : ∀ x1 M1, Q0 x1 M1 → (x1 = 0) → ∀ x6 M6, Q5 x6 M6 → (¬ x6 = 0) → pg_Ev S Λ YX11_isWord d [.ref 207, .int 21] M6 (fun r M' => ∃ x, r = some (.int x) ∧ Q6 x M'))
    (e7 : ∀ x1 M1, Q0 x1 M1 → (x1 = 0) → ∀ x6 M6, Q5 x6 M6 → (¬ x6 = 0) → ∀ x7 M7, Q6 x7 M7 → pg_Ev S Λ YX11_test d [.ref 207, .int v1] (pg_si M7 207 7 ((M7.1 207 7) + 1)) (fun r M' => r = none ∧ Q7 M'))
    (e8 : ∀ x1 M1, Q0 x1 M1 → (x1 = 0) → ∀ x6 M6, Q5 x6 M6 → (¬ x6 = 0) → ∀ x7 M7, Q6 x7 M7 → ∀ M8, Q7 M8 → (x7 = 0) → pg_Ev S Λ YX11_emit d [.ref 207, .int 10, .int 0] M8 (fun r M' => r = none ∧ Q8 M'))
    (k3 : ∀ x1 M1, Q0 x1 M1 → (x1 = 0) → ∀ x6 M6, Q5 x6 M6 → (¬ x6 = 0) → ∀ x7 M7, Q6 x7 M7 → ∀ M8, Q7 M8 → (x7 = 0) → ∀ M9, Q8 M9 → pg_At S Λ YX11_all (d + 1) 5 [(0, .ref 207), (1, .int v1)] [] M9 P)
    (e9 : ∀ x1 M1, Q0 x1 M1 → (x1 = 0) → ∀ x6 M6, Q5 x6 M6 → (¬ x6 = 0) → ∀ x7 M7, Q6 x7 M7 → ∀ M8, Q7 M8 → (¬ x7 = 0) → pg_Ev S Λ YX11_emit d [.ref 207, .int 9, .int 0] M8 (fun r M' => r = none ∧ Q9 M'))
    (k4 : ∀ x1 M1, Q0 x1 M1 → (x1 = 0) → ∀ x6 M6, Q5 x6 M6 → (¬ x6 = 0) → ∀ x7 M7, Q6 x7 M7 → ∀ M8, Q7 M8 → (¬ x7 = 0) → ∀ M10, Q9 M10 → pg_At S Λ YX11_all (d + 1) 5 [(0, .ref 207), (1, .int v1)] [] M10 P) :
    pg_At S Λ YX11_all (d + 1) 5 [(0, .ref 207), (1, .int v1)] [] M P := by
  refine pg_aload_n (pc := 5) (i := 0) (j := 0) (x := 207) dX11_all_5 rfl rfl ?_
  refine pg_bipush (pc := 6) (v := 21) dX11_all_6 (by decide) ?_
  refine pg_callV (pc := 8) (As := [.int 21]) (st := []) okX11_isWord lkX11_186 rfl h0.1 rfl (Nat.le_refl _) (Nat.le_of_ble_eq_true rfl) e0 dX11_all_8 (fun r1 M1 w1 => ?_)
  obtain ⟨x1, rfl, w1⟩ := w1
  refine pg_if_ne (pc := 11) (tgt := 23) dX11_all_11 (by decide) (fun c0 => ?_) (fun c0 => ?_)
  · skip
    refine pg_aload_n (pc := 23) (i := 0) (j := 0) (x := 207) dX11_all_23 rfl rfl ?_
    refine pg_bipush (pc := 24) (v := 21) dX11_all_24 (by decide) ?_
    refine pg_callV (pc := 26) (As := [.int 21]) (st := []) okX11_isWord lkX11_186 rfl h0.1 rfl (Nat.le_refl _) (Nat.le_of_ble_eq_true rfl) (e1 x1 M1 w1 c0) dX11_all_26 (fun r2 M2 w2 => ?_)
    obtain ⟨x2, rfl, w2⟩ := w2
    refine pg_istore_n (pc := 29) (i := 2) (ls' := [(2, .int x2), (0, .ref 207), (1, .int v1)]) dX11_all_29 rfl (by decide) rfl ?_
    refine pg_aload_n (pc := 30) (i := 0) (j := 1) (x := 207) dX11_all_30 rfl rfl ?_
    refine pg_dup (pc := 31) dX11_all_31 rfl ?_
    refine gfX11_174 (pc := 32) rfl h0 dX11_all_32 ?_
    refine pg_iconst (pc := 35) (v := 1) dX11_all_35 (by decide) ?_
    refine pg_iadd (pc := 36) dX11_all_36 ?_
    refine pfX11_174 (pc := 37) rfl h0 dX11_all_37 ?_
    refine pg_aload_n (pc := 40) (i := 0) (j := 1) (x := 207) dX11_all_40 rfl rfl ?_
    refine pg_iload_n (pc := 41) (i := 1) (j := 2) (x := v1) dX11_all_41 rfl rfl ?_
    refine pg_callV (pc := 42) (As := [.int v1]) (st := []) okX11_test lkX11_264 rfl h0.1 rfl (Nat.le_refl _) (Nat.le_of_ble_eq_true rfl) (e2 x1 M1 w1 c0 x2 M2 w2) dX11_all_42 (fun r3 M3 w3 => ?_)
    obtain ⟨rfl, w3⟩ := w3
    refine pg_aload_n (pc := 45) (i := 0) (j := 1) (x := 207) dX11_all_45 rfl rfl ?_
    refine pg_iload_n (pc := 46) (i := 2) (j := 0) (x := x2) dX11_all_46 rfl rfl ?_
    refine pg_if_eq (pc := 47) (tgt := 55) dX11_all_47 (by decide) (fun c1 => ?_) (fun c1 => ?_)
    · skip
      refine pg_bipush (pc := 55) (v := 10) dX11_all_55 (by decide) ?_
      refine pg_iconst (pc := 57) (v := 0) dX11_all_57 (by decide) ?_
      refine pg_callV (pc := 58) (As := [.int 10, .int 0]) (st := []) okX11_emit lkX11_256 rfl h0.1 rfl (Nat.le_refl _) (Nat.le_of_ble_eq_true rfl) (e3 x1 M1 w1 c0 x2 M2 w2 M3 w3 c1) dX11_all_58 (fun r4 M4 w4 => ?_)
      obtain ⟨rfl, w4⟩ := w4
      refine pg_goto (pc := 61) (tgt := 5) dX11_all_61 (by decide) ?_
      refine pg_drop (ks := [1, 2]) (ls' := [(0, .ref 207), (1, .int v1)]) rfl ?_
      exact k0 x1 M1 w1 c0 x2 M2 w2 M3 w3 c1 M4 w4
    · skip
      refine pg_bipush (pc := 50) (v := 9) dX11_all_50 (by decide) ?_
      refine pg_goto (pc := 52) (tgt := 57) dX11_all_52 (by decide) ?_
      refine pg_iconst (pc := 57) (v := 0) dX11_all_57 (by decide) ?_
      refine pg_callV (pc := 58) (As := [.int 9, .int 0]) (st := []) okX11_emit lkX11_256 rfl h0.1 rfl (Nat.le_refl _) (Nat.le_of_ble_eq_true rfl) (e4 x1 M1 w1 c0 x2 M2 w2 M3 w3 c1) dX11_all_58 (fun r5 M5 w5 => ?_)
      obtain ⟨rfl, w5⟩ := w5
      refine pg_goto (pc := 61) (tgt := 5) dX11_all_61 (by decide) ?_
      refine pg_drop (ks := [1, 2]) (ls' := [(0, .ref 207), (1, .int v1)]) rfl ?_
      exact k1 x1 M1 w1 c0 x2 M2 w2 M3 w3 c1 M5 w5
  · skip
    refine pg_aload_n (pc := 14) (i := 0) (j := 0) (x := 207) dX11_all_14 rfl rfl ?_
    refine pg_bipush (pc := 15) (v := 22) dX11_all_15 (by decide) ?_
    refine pg_callV (pc := 17) (As := [.int 22]) (st := []) okX11_isWord lkX11_186 rfl h0.1 rfl (Nat.le_refl _) (Nat.le_of_ble_eq_true rfl) (e5 x1 M1 w1 c0) dX11_all_17 (fun r6 M6 w6 => ?_)
    obtain ⟨x6, rfl, w6⟩ := w6
    refine pg_if_eq (pc := 20) (tgt := 64) dX11_all_20 (by decide) (fun c1 => ?_) (fun c1 => ?_)
    · skip
      exact pg_vret (pc := 64) rfl dX11_all_64 (k2 x1 M1 w1 c0 x6 M6 w6 c1)
    · skip
      refine pg_aload_n (pc := 23) (i := 0) (j := 0) (x := 207) dX11_all_23 rfl rfl ?_
      refine pg_bipush (pc := 24) (v := 21) dX11_all_24 (by decide) ?_
      refine pg_callV (pc := 26) (As := [.int 21]) (st := []) okX11_isWord lkX11_186 rfl h0.1 rfl (Nat.le_refl _) (Nat.le_of_ble_eq_true rfl) (e6 x1 M1 w1 c0 x6 M6 w6 c1) dX11_all_26 (fun r7 M7 w7 => ?_)
      obtain ⟨x7, rfl, w7⟩ := w7
      refine pg_istore_n (pc := 29) (i := 2) (ls' := [(2, .int x7), (0, .ref 207), (1, .int v1)]) dX11_all_29 rfl (by decide) rfl ?_
      refine pg_aload_n (pc := 30) (i := 0) (j := 1) (x := 207) dX11_all_30 rfl rfl ?_
      refine pg_dup (pc := 31) dX11_all_31 rfl ?_
      refine gfX11_174 (pc := 32) rfl h0 dX11_all_32 ?_
      refine pg_iconst (pc := 35) (v := 1) dX11_all_35 (by decide) ?_
      refine pg_iadd (pc := 36) dX11_all_36 ?_
      refine pfX11_174 (pc := 37) rfl h0 dX11_all_37 ?_
      refine pg_aload_n (pc := 40) (i := 0) (j := 1) (x := 207) dX11_all_40 rfl rfl ?_
      refine pg_iload_n (pc := 41) (i := 1) (j := 2) (x := v1) dX11_all_41 rfl rfl ?_
      refine pg_callV (pc := 42) (As := [.int v1]) (st := []) okX11_test lkX11_264 rfl h0.1 rfl (Nat.le_refl _) (Nat.le_of_ble_eq_true rfl) (e7 x1 M1 w1 c0 x6 M6 w6 c1 x7 M7 w7) dX11_all_42 (fun r8 M8 w8 => ?_)
      obtain ⟨rfl, w8⟩ := w8
      refine pg_aload_n (pc := 45) (i := 0) (j := 1) (x := 207) dX11_all_45 rfl rfl ?_
      refine pg_iload_n (pc := 46) (i := 2) (j := 0) (x := x7) dX11_all_46 rfl rfl ?_
      refine pg_if_eq (pc := 47) (tgt := 55) dX11_all_47 (by decide) (fun c2 => ?_) (fun c2 => ?_)
      · skip
        refine pg_bipush (pc := 55) (v := 10) dX11_all_55 (by decide) ?_
        refine pg_iconst (pc := 57) (v := 0) dX11_all_57 (by decide) ?_
        refine pg_callV (pc := 58) (As := [.int 10, .int 0]) (st := []) okX11_emit lkX11_256 rfl h0.1 rfl (Nat.le_refl _) (Nat.le_of_ble_eq_true rfl) (e8 x1 M1 w1 c0 x6 M6 w6 c1 x7 M7 w7 M8 w8 c2) dX11_all_58 (fun r9 M9 w9 => ?_)
        obtain ⟨rfl, w9⟩ := w9
        refine pg_goto (pc := 61) (tgt := 5) dX11_all_61 (by decide) ?_
        refine pg_drop (ks := [1, 2]) (ls' := [(0, .ref 207), (1, .int v1)]) rfl ?_
        exact k3 x1 M1 w1 c0 x6 M6 w6 c1 x7 M7 w7 M8 w8 c2 M9 w9
      · skip
        refine pg_bipush (pc := 50) (v := 9) dX11_all_50 (by decide) ?_
        refine pg_goto (pc := 52) (tgt := 57) dX11_all_52 (by decide) ?_
        refine pg_iconst (pc := 57) (v := 0) dX11_all_57 (by decide) ?_
        refine pg_callV (pc := 58) (As := [.int 9, .int 0]) (st := []) okX11_emit lkX11_256 rfl h0.1 rfl (Nat.le_refl _) (Nat.le_of_ble_eq_true rfl) (e9 x1 M1 w1 c0 x6 M6 w6 c1 x7 M7 w7 M8 w8 c2) dX11_all_58 (fun r10 M10 w10 => ?_)
        obtain ⟨rfl, w10⟩ := w10
        refine pg_goto (pc := 61) (tgt := 5) dX11_all_61 (by decide) ?_
        refine pg_drop (ks := [1, 2]) (ls' := [(0, .ref 207), (1, .int v1)]) rfl ?_
        exact k4 x1 M1 w1 c0 x6 M6 w6 c1 x7 M7 w7 M8 w8 c2 M10 w10
theorem oX11_all {d : Nat} {v1 : Int32} (h : pg_At S Λ YX11_all d 0 [(0, .ref 207), (1, .int v1)] [] M P) : pg_Ev S Λ YX11_all d [.ref 207, .int v1] M P := pg_Ev.of (by decide) (by first | decide | exact Nat.le_of_ble_eq_true rfl) h
theorem sX11_test_0 {v1 : Int32} {Q0 : pg_M → Prop} {Q1 : Int32 → pg_M → Prop} {Q2 : Int32 → pg_M → Prop} {Q3 : pg_M → Prop} {Q4 : pg_M → Prop} {Q5 : pg_M → Prop} {Q6 : Int32 → pg_M → Prop} {Q7 : pg_M → Prop} {Q8 : pg_M → Prop} {Q9 : pg_M → Prop}
    (h0 : pg_isX11 Λ)
    (e0 : pg_Ev S Λ YX11_sums d [.ref 207, .int v1] M (fun r M' => r = none ∧ Q0 M'))
    (e1 : ∀ M1, Q0 M1 → pg_Ev S Λ YX11_isSign d [.ref 207, .int 60] M1 (fun r M' => ∃ x, r = some (.int x) ∧ Q1 x M'))
    (e2 : ∀ M1, Q0 M1 → ∀ x2 M2, Q1 x2 M2 → pg_Ev S Λ YX11_hasSign d [.ref 207, .int 60] M2 (fun r M' => ∃ x, r = some (.int x) ∧ Q2 x M'))
    (e3 : ∀ M1, Q0 M1 → ∀ x2 M2, Q1 x2 M2 → ∀ x3 M3, Q2 x3 M3 → (¬ x3 = 0) → pg_Ev S Λ YX11_sums d [.ref 207, .int v1] M3 (fun r M' => r = none ∧ Q3 M'))
    (e4 : ∀ M1, Q0 M1 → ∀ x2 M2, Q1 x2 M2 → ∀ x3 M3, Q2 x3 M3 → (¬ x3 = 0) → ∀ M4, Q3 M4 → (x2 = 0) → pg_Ev S Λ YX11_emit d [.ref 207, .int 8, .int 0] M4 (fun r M' => r = none ∧ Q4 M'))
    (k0 : ∀ M1, Q0 M1 → ∀ x2 M2, Q1 x2 M2 → ∀ x3 M3, Q2 x3 M3 → (¬ x3 = 0) → ∀ M4, Q3 M4 → (x2 = 0) → ∀ M5, Q4 M5 → P none M5)
    (e5 : ∀ M1, Q0 M1 → ∀ x2 M2, Q1 x2 M2 → ∀ x3 M3, Q2 x3 M3 → (¬ x3 = 0) → ∀ M4, Q3 M4 → (¬ x2 = 0) → pg_Ev S Λ YX11_emit d [.ref 207, .int 7, .int 0] M4 (fun r M' => r = none ∧ Q5 M'))
    (k1 : ∀ M1, Q0 M1 → ∀ x2 M2, Q1 x2 M2 → ∀ x3 M3, Q2 x3 M3 → (¬ x3 = 0) → ∀ M4, Q3 M4 → (¬ x2 = 0) → ∀ M6, Q5 M6 → P none M6)
    (e6 : ∀ M1, Q0 M1 → ∀ x2 M2, Q1 x2 M2 → ∀ x3 M3, Q2 x3 M3 → (x3 = 0) → pg_Ev S Λ YX11_hasSign d [.ref 207, .int 61] M3 (fun r M' => ∃ x, r = some (.int x) ∧ Q6 x M'))
    (k2 : ∀ M1, Q0 M1 → ∀ x2 M2, Q1 x2 M2 → ∀ x3 M3, Q2 x3 M3 → (x3 = 0) → ∀ x7 M7, Q6 x7 M7 → (x7 = 0) → P none M7)
    (e7 : ∀ M1, Q0 M1 → ∀ x2 M2, Q1 x2 M2 → ∀ x3 M3, Q2 x3 M3 → (x3 = 0) → ∀ x7 M7, Q6 x7 M7 → (¬ x7 = 0) → pg_Ev S Λ YX11_sums d [.ref 207, .int v1] M7 (fun r M' => r = none ∧ Q7 M'))
    (e8 : ∀ M1, Q0 M1 → ∀ x2 M2, Q1 x2 M2 → ∀ x3 M3, Q2 x3 M3 → (x3 = 0) → ∀ x7 M7, Q6 x7 M7 → (¬ x7 = 0) → ∀ M8, Q7 M8 → (x2 = 0) → pg_Ev S Λ YX11_emit d [.ref 207, .int 8, .int 0] M8 (fun r M' => r = none ∧ Q8 M'))
    (k3 : ∀ M1, Q0 M1 → ∀ x2 M2, Q1 x2 M2 → ∀ x3 M3, Q2 x3 M3 → (x3 = 0) → ∀ x7 M7, Q6 x7 M7 → (¬ x7 = 0) → ∀ M8, Q7 M8 → (x2 = 0) → ∀ M9, Q8 M9 → P none M9)
    (e9 : ∀ M1, Q0 M1 → ∀ x2 M2, Q1 x2 M2 → ∀ x3 M3, Q2 x3 M3 → (x3 = 0) → ∀ x7 M7, Q6 x7 M7 → (¬ x7 = 0) → ∀ M8, Q7 M8 → (¬ x2 = 0) → pg_Ev S Λ YX11_emit d [.ref 207, .int 7, .int 0] M8 (fun r M' => r = none ∧ Q9 M'))
    (k4 : ∀ M1, Q0 M1 → ∀ x2 M2, Q1 x2 M2 → ∀ x3 M3, Q2 x3 M3 → (x3 = 0) → ∀ x7 M7, Q6 x7 M7 → (¬ x7 = 0) → ∀ M8, Q7 M8 → (¬ x2 = 0) → ∀ M10, Q9 M10 → P none M10) :
    pg_At S Λ YX11_test (d + 1) 0 [(0, .ref 207), (1, .int v1)] [] M P := by
  refine pg_aload_n (pc := 0) (i := 0) (j := 0) (x := 207) dX11_test_0 rfl rfl ?_
  refine pg_iload_n (pc := 1) (i := 1) (j := 1) (x := v1) dX11_test_1 rfl rfl ?_
  refine pg_callV (pc := 2) (As := [.int v1]) (st := []) okX11_sums lkX11_267 rfl h0.1 rfl (Nat.le_refl _) (Nat.le_of_ble_eq_true rfl) e0 dX11_test_2 (fun r1 M1 w1 => ?_)
  obtain ⟨rfl, w1⟩ := w1
  refine pg_aload_n (pc := 5) (i := 0) (j := 0) (x := 207) dX11_test_5 rfl rfl ?_
  refine pg_bipush (pc := 6) (v := 60) dX11_test_6 (by decide) ?_
  refine pg_callV (pc := 8) (As := [.int 60]) (st := []) okX11_isSign lkX11_180 rfl h0.1 rfl (Nat.le_refl _) (Nat.le_of_ble_eq_true rfl) (e1 M1 w1) dX11_test_8 (fun r2 M2 w2 => ?_)
  obtain ⟨x2, rfl, w2⟩ := w2
  refine pg_istore_n (pc := 11) (i := 2) (ls' := [(2, .int x2), (0, .ref 207), (1, .int v1)]) dX11_test_11 rfl (by decide) rfl ?_
  refine pg_aload_n (pc := 12) (i := 0) (j := 1) (x := 207) dX11_test_12 rfl rfl ?_
  refine pg_bipush (pc := 13) (v := 60) dX11_test_13 (by decide) ?_
  refine pg_callV (pc := 15) (As := [.int 60]) (st := []) okX11_hasSign lkX11_270 rfl h0.1 rfl (Nat.le_refl _) (Nat.le_of_ble_eq_true rfl) (e2 M1 w1 x2 M2 w2) dX11_test_15 (fun r3 M3 w3 => ?_)
  obtain ⟨x3, rfl, w3⟩ := w3
  refine pg_if_ne (pc := 18) (tgt := 30) dX11_test_18 (by decide) (fun c0 => ?_) (fun c0 => ?_)
  · skip
    refine pg_aload_n (pc := 30) (i := 0) (j := 1) (x := 207) dX11_test_30 rfl rfl ?_
    refine pg_iload_n (pc := 31) (i := 1) (j := 2) (x := v1) dX11_test_31 rfl rfl ?_
    refine pg_callV (pc := 32) (As := [.int v1]) (st := []) okX11_sums lkX11_267 rfl h0.1 rfl (Nat.le_refl _) (Nat.le_of_ble_eq_true rfl) (e3 M1 w1 x2 M2 w2 x3 M3 w3 c0) dX11_test_32 (fun r4 M4 w4 => ?_)
    obtain ⟨rfl, w4⟩ := w4
    refine pg_aload_n (pc := 35) (i := 0) (j := 1) (x := 207) dX11_test_35 rfl rfl ?_
    refine pg_iload_n (pc := 36) (i := 2) (j := 0) (x := x2) dX11_test_36 rfl rfl ?_
    refine pg_if_eq (pc := 37) (tgt := 45) dX11_test_37 (by decide) (fun c1 => ?_) (fun c1 => ?_)
    · skip
      refine pg_bipush (pc := 45) (v := 8) dX11_test_45 (by decide) ?_
      refine pg_iconst (pc := 47) (v := 0) dX11_test_47 (by decide) ?_
      refine pg_callV (pc := 48) (As := [.int 8, .int 0]) (st := []) okX11_emit lkX11_256 rfl h0.1 rfl (Nat.le_refl _) (Nat.le_of_ble_eq_true rfl) (e4 M1 w1 x2 M2 w2 x3 M3 w3 c0 M4 w4 c1) dX11_test_48 (fun r5 M5 w5 => ?_)
      obtain ⟨rfl, w5⟩ := w5
      exact pg_vret (pc := 51) rfl dX11_test_51 (k0 M1 w1 x2 M2 w2 x3 M3 w3 c0 M4 w4 c1 M5 w5)
    · skip
      refine pg_bipush (pc := 40) (v := 7) dX11_test_40 (by decide) ?_
      refine pg_goto (pc := 42) (tgt := 47) dX11_test_42 (by decide) ?_
      refine pg_iconst (pc := 47) (v := 0) dX11_test_47 (by decide) ?_
      refine pg_callV (pc := 48) (As := [.int 7, .int 0]) (st := []) okX11_emit lkX11_256 rfl h0.1 rfl (Nat.le_refl _) (Nat.le_of_ble_eq_true rfl) (e5 M1 w1 x2 M2 w2 x3 M3 w3 c0 M4 w4 c1) dX11_test_48 (fun r6 M6 w6 => ?_)
      obtain ⟨rfl, w6⟩ := w6
      exact pg_vret (pc := 51) rfl dX11_test_51 (k1 M1 w1 x2 M2 w2 x3 M3 w3 c0 M4 w4 c1 M6 w6)
  · skip
    refine pg_aload_n (pc := 21) (i := 0) (j := 1) (x := 207) dX11_test_21 rfl rfl ?_
    refine pg_bipush (pc := 22) (v := 61) dX11_test_22 (by decide) ?_
    refine pg_callV (pc := 24) (As := [.int 61]) (st := []) okX11_hasSign lkX11_270 rfl h0.1 rfl (Nat.le_refl _) (Nat.le_of_ble_eq_true rfl) (e6 M1 w1 x2 M2 w2 x3 M3 w3 c0) dX11_test_24 (fun r7 M7 w7 => ?_)
    obtain ⟨x7, rfl, w7⟩ := w7
    refine pg_if_eq (pc := 27) (tgt := 51) dX11_test_27 (by decide) (fun c1 => ?_) (fun c1 => ?_)
    · skip
      exact pg_vret (pc := 51) rfl dX11_test_51 (k2 M1 w1 x2 M2 w2 x3 M3 w3 c0 x7 M7 w7 c1)
    · skip
      refine pg_aload_n (pc := 30) (i := 0) (j := 1) (x := 207) dX11_test_30 rfl rfl ?_
      refine pg_iload_n (pc := 31) (i := 1) (j := 2) (x := v1) dX11_test_31 rfl rfl ?_
      refine pg_callV (pc := 32) (As := [.int v1]) (st := []) okX11_sums lkX11_267 rfl h0.1 rfl (Nat.le_refl _) (Nat.le_of_ble_eq_true rfl) (e7 M1 w1 x2 M2 w2 x3 M3 w3 c0 x7 M7 w7 c1) dX11_test_32 (fun r8 M8 w8 => ?_)
      obtain ⟨rfl, w8⟩ := w8
      refine pg_aload_n (pc := 35) (i := 0) (j := 1) (x := 207) dX11_test_35 rfl rfl ?_
      refine pg_iload_n (pc := 36) (i := 2) (j := 0) (x := x2) dX11_test_36 rfl rfl ?_
      refine pg_if_eq (pc := 37) (tgt := 45) dX11_test_37 (by decide) (fun c2 => ?_) (fun c2 => ?_)
      · skip
        refine pg_bipush (pc := 45) (v := 8) dX11_test_45 (by decide) ?_
        refine pg_iconst (pc := 47) (v := 0) dX11_test_47 (by decide) ?_
        refine pg_callV (pc := 48) (As := [.int 8, .int 0]) (st := []) okX11_emit lkX11_256 rfl h0.1 rfl (Nat.le_refl _) (Nat.le_of_ble_eq_true rfl) (e8 M1 w1 x2 M2 w2 x3 M3 w3 c0 x7 M7 w7 c1 M8 w8 c2) dX11_test_48 (fun r9 M9 w9 => ?_)
        obtain ⟨rfl, w9⟩ := w9
        exact pg_vret (pc := 51) rfl dX11_test_51 (k3 M1 w1 x2 M2 w2 x3 M3 w3 c0 x7 M7 w7 c1 M8 w8 c2 M9 w9)
      · skip
        refine pg_bipush (pc := 40) (v := 7) dX11_test_40 (by decide) ?_
        refine pg_goto (pc := 42) (tgt := 47) dX11_test_42 (by decide) ?_
        refine pg_iconst (pc := 47) (v := 0) dX11_test_47 (by decide) ?_
        refine pg_callV (pc := 48) (As := [.int 7, .int 0]) (st := []) okX11_emit lkX11_256 rfl h0.1 rfl (Nat.le_refl _) (Nat.le_of_ble_eq_true rfl) (e9 M1 w1 x2 M2 w2 x3 M3 w3 c0 x7 M7 w7 c1 M8 w8 c2) dX11_test_48 (fun r10 M10 w10 => ?_)
        obtain ⟨rfl, w10⟩ := w10
        exact pg_vret (pc := 51) rfl dX11_test_51 (k4 M1 w1 x2 M2 w2 x3 M3 w3 c0 x7 M7 w7 c1 M8 w8 c2 M10 w10)
theorem oX11_test {d : Nat} {v1 : Int32} (h : pg_At S Λ YX11_test d 0 [(0, .ref 207), (1, .int v1)] [] M P) : pg_Ev S Λ YX11_test d [.ref 207, .int v1] M P := pg_Ev.of (by decide) (by first | decide | exact Nat.le_of_ble_eq_true rfl) h
theorem sX11_sums_0 {v1 : Int32} {Q0 : pg_M → Prop}
    (h0 : pg_isX11 Λ)
    (e0 : pg_Ev S Λ YX11_products d [.ref 207, .int v1] M (fun r M' => r = none ∧ Q0 M'))
    (k0 : ∀ M1, Q0 M1 → pg_At S Λ YX11_sums (d + 1) 5 [(0, .ref 207), (1, .int v1)] [] M1 P) :
    pg_At S Λ YX11_sums (d + 1) 0 [(0, .ref 207), (1, .int v1)] [] M P := by
  refine pg_aload_n (pc := 0) (i := 0) (j := 0) (x := 207) dX11_sums_0 rfl rfl ?_
  refine pg_iload_n (pc := 1) (i := 1) (j := 1) (x := v1) dX11_sums_1 rfl rfl ?_
  refine pg_callV (pc := 2) (As := [.int v1]) (st := []) okX11_products lkX11_273 rfl h0.1 rfl (Nat.le_refl _) (Nat.le_of_ble_eq_true rfl) e0 dX11_sums_2 (fun r1 M1 w1 => ?_)
  obtain ⟨rfl, w1⟩ := w1
  exact k0 M1 w1
theorem sX11_sums_5 {v1 : Int32} {Q0 : Int32 → pg_M → Prop} {Q1 : Int32 → pg_M → Prop} {Q2 : pg_M → Prop} {Q3 : pg_M → Prop} {Q4 : pg_M → Prop} {Q5 : Int32 → pg_M → Prop} {Q6 : Int32 → pg_M → Prop} {Q7 : pg_M → Prop} {Q8 : pg_M → Prop} {Q9 : pg_M → Prop}
    (h0 : pg_isX11 Λ)
    (e0 : pg_Ev S Λ YX11_isSign d [.ref 207, .int 43] M (fun r M' => ∃ x, r = some (.int x) ∧ Q0 x M'))
    (e1 : ∀ x1 M1, Q0 x1 M1 → (¬ x1 = 0) → pg_Ev S Λ YX11_isSign d [.ref 207, .int 43] M1 (fun r M' => ∃ x, r = some (.int x) ∧ Q1 x M'))
    (e2 : ∀ x1 M1, Q0 x1 M1 → (¬ x1 = 0) → ∀ x2 M2, Q1 x2 M2 → pg_Ev S Λ YX11_products d [.ref 207, .int v1] (pg_si M2 207 7 ((M2.1 207 7) + 1)) (fun r M' => r = none ∧ Q2 M'))
    (e3 : ∀ x1 M1, Q0 x1 M1 → (¬ x1 = 0) → ∀ x2 M2, Q1 x2 M2 → ∀ M3, Q2 M3 → (x2 = 0) → pg_Ev S Λ YX11_emit d [.ref 207, .int 5, .int 0] M3 (fun r M' => r = none ∧ Q3 M'))
    (k0 : ∀ x1 M1, Q0 x1 M1 → (¬ x1 = 0) → ∀ x2 M2, Q1 x2 M2 → ∀ M3, Q2 M3 → (x2 = 0) → ∀ M4, Q3 M4 → pg_At S Λ YX11_sums (d + 1) 5 [(0, .ref 207), (1, .int v1)] [] M4 P)
    (e4 : ∀ x1 M1, Q0 x1 M1 → (¬ x1 = 0) → ∀ x2 M2, Q1 x2 M2 → ∀ M3, Q2 M3 → (¬ x2 = 0) → pg_Ev S Λ YX11_emit d [.ref 207, .int 4, .int 0] M3 (fun r M' => r = none ∧ Q4 M'))
    (k1 : ∀ x1 M1, Q0 x1 M1 → (¬ x1 = 0) → ∀ x2 M2, Q1 x2 M2 → ∀ M3, Q2 M3 → (¬ x2 = 0) → ∀ M5, Q4 M5 → pg_At S Λ YX11_sums (d + 1) 5 [(0, .ref 207), (1, .int v1)] [] M5 P)
    (e5 : ∀ x1 M1, Q0 x1 M1 → (x1 = 0) → pg_Ev S Λ YX11_isSign d [.ref 207, .int 45] M1 (fun r M' => ∃ x, r = some (.int x) ∧ Q5 x M'))
    (k2 : ∀ x1 M1, Q0 x1 M1 → (x1 = 0) → ∀ x6 M6, Q5 x6 M6 → (x6 = 0) → P none M6)
    (e6 : ∀ x1 M1, Q0 x1 M1 → (x1 = 0) → ∀ x6 M6, Q5 x6 M6 → (¬ x6 = 0) → pg_Ev S Λ YX11_isSign d [.ref 207, .int 43] M6 (fun r M' => ∃ x, r = some (.int x) ∧ Q6 x M'))
    (e7 : ∀ x1 M1, Q0 x1 M1 → (x1 = 0) → ∀ x6 M6, Q5 x6 M6 → (¬ x6 = 0) → ∀ x7 M7, Q6 x7 M7 → pg_Ev S Λ YX11_products d [.ref 207, .int v1] (pg_si M7 207 7 ((M7.1 207 7) + 1)) (fun r M' => r = none ∧ Q7 M'))
    (e8 : ∀ x1 M1, Q0 x1 M1 → (x1 = 0) → ∀ x6 M6, Q5 x6 M6 → (¬ x6 = 0) → ∀ x7 M7, Q6 x7 M7 → ∀ M8, Q7 M8 → (x7 = 0) → pg_Ev S Λ YX11_emit d [.ref 207, .int 5, .int 0] M8 (fun r M' => r = none ∧ Q8 M'))
    (k3 : ∀ x1 M1, Q0 x1 M1 → (x1 = 0) → ∀ x6 M6, Q5 x6 M6 → (¬ x6 = 0) → ∀ x7 M7, Q6 x7 M7 → ∀ M8, Q7 M8 → (x7 = 0) → ∀ M9, Q8 M9 → pg_At S Λ YX11_sums (d + 1) 5 [(0, .ref 207), (1, .int v1)] [] M9 P)
    (e9 : ∀ x1 M1, Q0 x1 M1 → (x1 = 0) → ∀ x6 M6, Q5 x6 M6 → (¬ x6 = 0) → ∀ x7 M7, Q6 x7 M7 → ∀ M8, Q7 M8 → (¬ x7 = 0) → pg_Ev S Λ YX11_emit d [.ref 207, .int 4, .int 0] M8 (fun r M' => r = none ∧ Q9 M'))
    (k4 : ∀ x1 M1, Q0 x1 M1 → (x1 = 0) → ∀ x6 M6, Q5 x6 M6 → (¬ x6 = 0) → ∀ x7 M7, Q6 x7 M7 → ∀ M8, Q7 M8 → (¬ x7 = 0) → ∀ M10, Q9 M10 → pg_At S Λ YX11_sums (d + 1) 5 [(0, .ref 207), (1, .int v1)] [] M10 P) :
    pg_At S Λ YX11_sums (d + 1) 5 [(0, .ref 207), (1, .int v1)] [] M P := by
  refine pg_aload_n (pc := 5) (i := 0) (j := 0) (x := 207) dX11_sums_5 rfl rfl ?_
  refine pg_bipush (pc := 6) (v := 43) dX11_sums_6 (by decide) ?_
  refine pg_callV (pc := 8) (As := [.int 43]) (st := []) okX11_isSign lkX11_180 rfl h0.1 rfl (Nat.le_refl _) (Nat.le_of_ble_eq_true rfl) e0 dX11_sums_8 (fun r1 M1 w1 => ?_)
  obtain ⟨x1, rfl, w1⟩ := w1
  refine pg_if_ne (pc := 11) (tgt := 23) dX11_sums_11 (by decide) (fun c0 => ?_) (fun c0 => ?_)
  · skip
    refine pg_aload_n (pc := 23) (i := 0) (j := 0) (x := 207) dX11_sums_23 rfl rfl ?_
    refine pg_bipush (pc := 24) (v := 43) dX11_sums_24 (by decide) ?_
    refine pg_callV (pc := 26) (As := [.int 43]) (st := []) okX11_isSign lkX11_180 rfl h0.1 rfl (Nat.le_refl _) (Nat.le_of_ble_eq_true rfl) (e1 x1 M1 w1 c0) dX11_sums_26 (fun r2 M2 w2 => ?_)
    obtain ⟨x2, rfl, w2⟩ := w2
    refine pg_istore_n (pc := 29) (i := 2) (ls' := [(2, .int x2), (0, .ref 207), (1, .int v1)]) dX11_sums_29 rfl (by decide) rfl ?_
    refine pg_aload_n (pc := 30) (i := 0) (j := 1) (x := 207) dX11_sums_30 rfl rfl ?_
    refine pg_dup (pc := 31) dX11_sums_31 rfl ?_
    refine gfX11_174 (pc := 32) rfl h0 dX11_sums_32 ?_
    refine pg_iconst (pc := 35) (v := 1) dX11_sums_35 (by decide) ?_
    refine pg_iadd (pc := 36) dX11_sums_36 ?_
    refine pfX11_174 (pc := 37) rfl h0 dX11_sums_37 ?_
    refine pg_aload_n (pc := 40) (i := 0) (j := 1) (x := 207) dX11_sums_40 rfl rfl ?_
    refine pg_iload_n (pc := 41) (i := 1) (j := 2) (x := v1) dX11_sums_41 rfl rfl ?_
    refine pg_callV (pc := 42) (As := [.int v1]) (st := []) okX11_products lkX11_273 rfl h0.1 rfl (Nat.le_refl _) (Nat.le_of_ble_eq_true rfl) (e2 x1 M1 w1 c0 x2 M2 w2) dX11_sums_42 (fun r3 M3 w3 => ?_)
    obtain ⟨rfl, w3⟩ := w3
    refine pg_aload_n (pc := 45) (i := 0) (j := 1) (x := 207) dX11_sums_45 rfl rfl ?_
    refine pg_iload_n (pc := 46) (i := 2) (j := 0) (x := x2) dX11_sums_46 rfl rfl ?_
    refine pg_if_eq (pc := 47) (tgt := 54) dX11_sums_47 (by decide) (fun c1 => ?_) (fun c1 => ?_)
    · skip
      refine pg_iconst (pc := 54) (v := 5) dX11_sums_54 (by decide) ?_
      refine pg_iconst (pc := 55) (v := 0) dX11_sums_55 (by decide) ?_
      refine pg_callV (pc := 56) (As := [.int 5, .int 0]) (st := []) okX11_emit lkX11_256 rfl h0.1 rfl (Nat.le_refl _) (Nat.le_of_ble_eq_true rfl) (e3 x1 M1 w1 c0 x2 M2 w2 M3 w3 c1) dX11_sums_56 (fun r4 M4 w4 => ?_)
      obtain ⟨rfl, w4⟩ := w4
      refine pg_goto (pc := 59) (tgt := 5) dX11_sums_59 (by decide) ?_
      refine pg_drop (ks := [1, 2]) (ls' := [(0, .ref 207), (1, .int v1)]) rfl ?_
      exact k0 x1 M1 w1 c0 x2 M2 w2 M3 w3 c1 M4 w4
    · skip
      refine pg_iconst (pc := 50) (v := 4) dX11_sums_50 (by decide) ?_
      refine pg_goto (pc := 51) (tgt := 55) dX11_sums_51 (by decide) ?_
      refine pg_iconst (pc := 55) (v := 0) dX11_sums_55 (by decide) ?_
      refine pg_callV (pc := 56) (As := [.int 4, .int 0]) (st := []) okX11_emit lkX11_256 rfl h0.1 rfl (Nat.le_refl _) (Nat.le_of_ble_eq_true rfl) (e4 x1 M1 w1 c0 x2 M2 w2 M3 w3 c1) dX11_sums_56 (fun r5 M5 w5 => ?_)
      obtain ⟨rfl, w5⟩ := w5
      refine pg_goto (pc := 59) (tgt := 5) dX11_sums_59 (by decide) ?_
      refine pg_drop (ks := [1, 2]) (ls' := [(0, .ref 207), (1, .int v1)]) rfl ?_
      exact k1 x1 M1 w1 c0 x2 M2 w2 M3 w3 c1 M5 w5
  · skip
    refine pg_aload_n (pc := 14) (i := 0) (j := 0) (x := 207) dX11_sums_14 rfl rfl ?_
    refine pg_bipush (pc := 15) (v := 45) dX11_sums_15 (by decide) ?_
    refine pg_callV (pc := 17) (As := [.int 45]) (st := []) okX11_isSign lkX11_180 rfl h0.1 rfl (Nat.le_refl _) (Nat.le_of_ble_eq_true rfl) (e5 x1 M1 w1 c0) dX11_sums_17 (fun r6 M6 w6 => ?_)
    obtain ⟨x6, rfl, w6⟩ := w6
    refine pg_if_eq (pc := 20) (tgt := 62) dX11_sums_20 (by decide) (fun c1 => ?_) (fun c1 => ?_)
    · skip
      exact pg_vret (pc := 62) rfl dX11_sums_62 (k2 x1 M1 w1 c0 x6 M6 w6 c1)
    · skip
      refine pg_aload_n (pc := 23) (i := 0) (j := 0) (x := 207) dX11_sums_23 rfl rfl ?_
      refine pg_bipush (pc := 24) (v := 43) dX11_sums_24 (by decide) ?_
      refine pg_callV (pc := 26) (As := [.int 43]) (st := []) okX11_isSign lkX11_180 rfl h0.1 rfl (Nat.le_refl _) (Nat.le_of_ble_eq_true rfl) (e6 x1 M1 w1 c0 x6 M6 w6 c1) dX11_sums_26 (fun r7 M7 w7 => ?_)
      obtain ⟨x7, rfl, w7⟩ := w7
      refine pg_istore_n (pc := 29) (i := 2) (ls' := [(2, .int x7), (0, .ref 207), (1, .int v1)]) dX11_sums_29 rfl (by decide) rfl ?_
      refine pg_aload_n (pc := 30) (i := 0) (j := 1) (x := 207) dX11_sums_30 rfl rfl ?_
      refine pg_dup (pc := 31) dX11_sums_31 rfl ?_
      refine gfX11_174 (pc := 32) rfl h0 dX11_sums_32 ?_
      refine pg_iconst (pc := 35) (v := 1) dX11_sums_35 (by decide) ?_
      refine pg_iadd (pc := 36) dX11_sums_36 ?_
      refine pfX11_174 (pc := 37) rfl h0 dX11_sums_37 ?_
      refine pg_aload_n (pc := 40) (i := 0) (j := 1) (x := 207) dX11_sums_40 rfl rfl ?_
      refine pg_iload_n (pc := 41) (i := 1) (j := 2) (x := v1) dX11_sums_41 rfl rfl ?_
      refine pg_callV (pc := 42) (As := [.int v1]) (st := []) okX11_products lkX11_273 rfl h0.1 rfl (Nat.le_refl _) (Nat.le_of_ble_eq_true rfl) (e7 x1 M1 w1 c0 x6 M6 w6 c1 x7 M7 w7) dX11_sums_42 (fun r8 M8 w8 => ?_)
      obtain ⟨rfl, w8⟩ := w8
      refine pg_aload_n (pc := 45) (i := 0) (j := 1) (x := 207) dX11_sums_45 rfl rfl ?_
      refine pg_iload_n (pc := 46) (i := 2) (j := 0) (x := x7) dX11_sums_46 rfl rfl ?_
      refine pg_if_eq (pc := 47) (tgt := 54) dX11_sums_47 (by decide) (fun c2 => ?_) (fun c2 => ?_)
      · skip
        refine pg_iconst (pc := 54) (v := 5) dX11_sums_54 (by decide) ?_
        refine pg_iconst (pc := 55) (v := 0) dX11_sums_55 (by decide) ?_
        refine pg_callV (pc := 56) (As := [.int 5, .int 0]) (st := []) okX11_emit lkX11_256 rfl h0.1 rfl (Nat.le_refl _) (Nat.le_of_ble_eq_true rfl) (e8 x1 M1 w1 c0 x6 M6 w6 c1 x7 M7 w7 M8 w8 c2) dX11_sums_56 (fun r9 M9 w9 => ?_)
        obtain ⟨rfl, w9⟩ := w9
        refine pg_goto (pc := 59) (tgt := 5) dX11_sums_59 (by decide) ?_
        refine pg_drop (ks := [1, 2]) (ls' := [(0, .ref 207), (1, .int v1)]) rfl ?_
        exact k3 x1 M1 w1 c0 x6 M6 w6 c1 x7 M7 w7 M8 w8 c2 M9 w9
      · skip
        refine pg_iconst (pc := 50) (v := 4) dX11_sums_50 (by decide) ?_
        refine pg_goto (pc := 51) (tgt := 55) dX11_sums_51 (by decide) ?_
        refine pg_iconst (pc := 55) (v := 0) dX11_sums_55 (by decide) ?_
        refine pg_callV (pc := 56) (As := [.int 4, .int 0]) (st := []) okX11_emit lkX11_256 rfl h0.1 rfl (Nat.le_refl _) (Nat.le_of_ble_eq_true rfl) (e9 x1 M1 w1 c0 x6 M6 w6 c1 x7 M7 w7 M8 w8 c2) dX11_sums_56 (fun r10 M10 w10 => ?_)
        obtain ⟨rfl, w10⟩ := w10
        refine pg_goto (pc := 59) (tgt := 5) dX11_sums_59 (by decide) ?_
        refine pg_drop (ks := [1, 2]) (ls' := [(0, .ref 207), (1, .int v1)]) rfl ?_
        exact k4 x1 M1 w1 c0 x6 M6 w6 c1 x7 M7 w7 M8 w8 c2 M10 w10
theorem oX11_sums {d : Nat} {v1 : Int32} (h : pg_At S Λ YX11_sums d 0 [(0, .ref 207), (1, .int v1)] [] M P) : pg_Ev S Λ YX11_sums d [.ref 207, .int v1] M P := pg_Ev.of (by decide) (by first | decide | exact Nat.le_of_ble_eq_true rfl) h
theorem sX11_products_0 {v1 : Int32} {Q0 : pg_M → Prop}
    (h0 : pg_isX11 Λ)
    (e0 : pg_Ev S Λ YX11_takePart d [.ref 207, .int v1] M (fun r M' => r = none ∧ Q0 M'))
    (k0 : ∀ M1, Q0 M1 → pg_At S Λ YX11_products (d + 1) 5 [(0, .ref 207), (1, .int v1)] [] M1 P) :
    pg_At S Λ YX11_products (d + 1) 0 [(0, .ref 207), (1, .int v1)] [] M P := by
  refine pg_aload_n (pc := 0) (i := 0) (j := 0) (x := 207) dX11_products_0 rfl rfl ?_
  refine pg_iload_n (pc := 1) (i := 1) (j := 1) (x := v1) dX11_products_1 rfl rfl ?_
  refine pg_callV (pc := 2) (As := [.int v1]) (st := []) okX11_takePart lkX11_276 rfl h0.1 rfl (Nat.le_refl _) (Nat.le_of_ble_eq_true rfl) e0 dX11_products_2 (fun r1 M1 w1 => ?_)
  obtain ⟨rfl, w1⟩ := w1
  exact k0 M1 w1
theorem sX11_products_5 {v1 : Int32} {Q0 : Int32 → pg_M → Prop} {Q1 : pg_M → Prop} {Q2 : pg_M → Prop}
    (h0 : pg_isX11 Λ)
    (e0 : pg_Ev S Λ YX11_hasSign d [.ref 207, .int 42] M (fun r M' => ∃ x, r = some (.int x) ∧ Q0 x M'))
    (k0 : ∀ x1 M1, Q0 x1 M1 → (x1 = 0) → P none M1)
    (e1 : ∀ x1 M1, Q0 x1 M1 → (¬ x1 = 0) → pg_Ev S Λ YX11_takePart d [.ref 207, .int v1] M1 (fun r M' => r = none ∧ Q1 M'))
    (e2 : ∀ x1 M1, Q0 x1 M1 → (¬ x1 = 0) → ∀ M2, Q1 M2 → pg_Ev S Λ YX11_emit d [.ref 207, .int 6, .int 0] M2 (fun r M' => r = none ∧ Q2 M'))
    (k1 : ∀ x1 M1, Q0 x1 M1 → (¬ x1 = 0) → ∀ M2, Q1 M2 → ∀ M3, Q2 M3 → pg_At S Λ YX11_products (d + 1) 5 [(0, .ref 207), (1, .int v1)] [] M3 P) :
    pg_At S Λ YX11_products (d + 1) 5 [(0, .ref 207), (1, .int v1)] [] M P := by
  refine pg_aload_n (pc := 5) (i := 0) (j := 0) (x := 207) dX11_products_5 rfl rfl ?_
  refine pg_bipush (pc := 6) (v := 42) dX11_products_6 (by decide) ?_
  refine pg_callV (pc := 8) (As := [.int 42]) (st := []) okX11_hasSign lkX11_270 rfl h0.1 rfl (Nat.le_refl _) (Nat.le_of_ble_eq_true rfl) e0 dX11_products_8 (fun r1 M1 w1 => ?_)
  obtain ⟨x1, rfl, w1⟩ := w1
  refine pg_if_eq (pc := 11) (tgt := 29) dX11_products_11 (by decide) (fun c0 => ?_) (fun c0 => ?_)
  · skip
    exact pg_vret (pc := 29) rfl dX11_products_29 (k0 x1 M1 w1 c0)
  · skip
    refine pg_aload_n (pc := 14) (i := 0) (j := 0) (x := 207) dX11_products_14 rfl rfl ?_
    refine pg_iload_n (pc := 15) (i := 1) (j := 1) (x := v1) dX11_products_15 rfl rfl ?_
    refine pg_callV (pc := 16) (As := [.int v1]) (st := []) okX11_takePart lkX11_276 rfl h0.1 rfl (Nat.le_refl _) (Nat.le_of_ble_eq_true rfl) (e1 x1 M1 w1 c0) dX11_products_16 (fun r2 M2 w2 => ?_)
    obtain ⟨rfl, w2⟩ := w2
    refine pg_aload_n (pc := 19) (i := 0) (j := 0) (x := 207) dX11_products_19 rfl rfl ?_
    refine pg_bipush (pc := 20) (v := 6) dX11_products_20 (by decide) ?_
    refine pg_iconst (pc := 22) (v := 0) dX11_products_22 (by decide) ?_
    refine pg_callV (pc := 23) (As := [.int 6, .int 0]) (st := []) okX11_emit lkX11_256 rfl h0.1 rfl (Nat.le_refl _) (Nat.le_of_ble_eq_true rfl) (e2 x1 M1 w1 c0 M2 w2) dX11_products_23 (fun r3 M3 w3 => ?_)
    obtain ⟨rfl, w3⟩ := w3
    refine pg_goto (pc := 26) (tgt := 5) dX11_products_26 (by decide) ?_
    exact k1 x1 M1 w1 c0 M2 w2 M3 w3
theorem oX11_products {d : Nat} {v1 : Int32} (h : pg_At S Λ YX11_products d 0 [(0, .ref 207), (1, .int v1)] [] M P) : pg_Ev S Λ YX11_products d [.ref 207, .int v1] M P := pg_Ev.of (by decide) (by first | decide | exact Nat.le_of_ble_eq_true rfl) h
theorem sX11_takePart_0 {v1 : Int32} 
    (h0 : pg_isX11 Λ)
    (b0 : ((M.1 207 8) ≤ 0) → vp_in (M.1 207 7) 1002)
    (k0 : ((M.1 207 8) ≤ 0) → (¬ (M.1 209 (M.1 207 7).toNatClampNeg) = 2) → pg_At S Λ YX11_takePart (d + 1) 26 [(0, .ref 207), (1, .int v1)] [.int 0] M P)
    (k1 : ((M.1 207 8) ≤ 0) → ((M.1 209 (M.1 207 7).toNatClampNeg) = 2) → pg_At S Λ YX11_takePart (d + 1) 26 [(0, .ref 207), (1, .int v1)] [.int 1] M P)
    (k2 : (¬ (M.1 207 8) ≤ 0) → P none M) :
    pg_At S Λ YX11_takePart (d + 1) 0 [(0, .ref 207), (1, .int v1)] [] M P := by
  refine pg_aload_n (pc := 0) (i := 0) (j := 0) (x := 207) dX11_takePart_0 rfl rfl ?_
  refine gfX11_177 (pc := 1) rfl h0 dX11_takePart_1 ?_
  refine pg_if_le (pc := 4) (tgt := 8) dX11_takePart_4 (by decide) (fun c0 => ?_) (fun c0 => ?_)
  · skip
    refine pg_aload_n (pc := 8) (i := 0) (j := 0) (x := 207) dX11_takePart_8 rfl rfl ?_
    refine gfX11_24 (pc := 9) rfl h0 dX11_takePart_9 ?_
    refine pg_aload_n (pc := 12) (i := 0) (j := 0) (x := 207) dX11_takePart_12 rfl rfl ?_
    refine gfX11_174 (pc := 13) rfl h0 dX11_takePart_13 ?_
    refine pg_iald (pc := 16) h0.2.2.1 (b0 c0) dX11_takePart_16 ?_
    refine pg_iconst (pc := 17) (v := 2) dX11_takePart_17 (by decide) ?_
    refine pg_icmp_ne (pc := 18) (tgt := 25) dX11_takePart_18 (by decide) (fun c1 => ?_) (fun c1 => ?_)
    · skip
      refine pg_iconst (pc := 25) (v := 0) dX11_takePart_25 (by decide) ?_
      exact k0 c0 c1
    · skip
      refine pg_iconst (pc := 21) (v := 1) dX11_takePart_21 (by decide) ?_
      refine pg_goto (pc := 22) (tgt := 26) dX11_takePart_22 (by decide) ?_
      exact k1 c0 c1
  · skip
    exact pg_vret (pc := 7) rfl dX11_takePart_7 (k2 c0)
theorem sX11_takePart_26 {v1 : Int32} {s0 : Int32} {Q0 : Int32 → pg_M → Prop} {Q1 : pg_M → Prop} {Q2 : pg_M → Prop} {Q3 : Int32 → pg_M → Prop} {Q4 : pg_M → Prop} {Q5 : Int32 → pg_M → Prop} {Q6 : pg_M → Prop} {Q7 : pg_M → Prop}
    (h0 : pg_isX11 Λ)
    (e0 : pg_Ev S Λ YX11_wordHere d [.ref 207, .int 23, .int 3] M (fun r M' => ∃ x, r = some (.int x) ∧ Q0 x M'))
    (k0 : ∀ x1 M1, Q0 x1 M1 → (0 ≤ x1) → (¬ v1 = 5) → pg_At S Λ YX11_takePart (d + 1) 79 [(0, .ref 207), (1, .int v1), (2, .int s0), (3, .int x1)] [] M1 P)
    (e1 : ∀ x1 M1, Q0 x1 M1 → (0 ≤ x1) → (v1 = 5) → pg_Ev S Λ YX11_wrong d [.ref 207, .int 5] M1 (fun r M' => r = none ∧ Q1 M'))
    (k1 : ∀ x1 M1, Q0 x1 M1 → (0 ≤ x1) → (v1 = 5) → ∀ M2, Q1 M2 → pg_At S Λ YX11_takePart (d + 1) 79 [(0, .ref 207), (1, .int v1), (2, .int s0), (3, .int x1)] [] M2 P)
    (k2 : ∀ x1 M1, Q0 x1 M1 → (¬ 0 ≤ x1) → (¬ s0 = 0) → (¬ v1 = 5) → pg_At S Λ YX11_takePart (d + 1) 79 [(0, .ref 207), (1, .int v1), (2, .int s0), (3, .int x1)] [] M1 P)
    (e2 : ∀ x1 M1, Q0 x1 M1 → (¬ 0 ≤ x1) → (¬ s0 = 0) → (v1 = 5) → pg_Ev S Λ YX11_wrong d [.ref 207, .int 5] M1 (fun r M' => r = none ∧ Q2 M'))
    (k3 : ∀ x1 M1, Q0 x1 M1 → (¬ 0 ≤ x1) → (¬ s0 = 0) → (v1 = 5) → ∀ M3, Q2 M3 → pg_At S Λ YX11_takePart (d + 1) 79 [(0, .ref 207), (1, .int v1), (2, .int s0), (3, .int x1)] [] M3 P)
    (e3 : ∀ x1 M1, Q0 x1 M1 → (¬ 0 ≤ x1) → (s0 = 0) → pg_Ev S Λ YX11_isSign d [.ref 207, .int 40] M1 (fun r M' => ∃ x, r = some (.int x) ∧ Q3 x M'))
    (k4 : ∀ x1 M1, Q0 x1 M1 → (¬ 0 ≤ x1) → (s0 = 0) → ∀ x4 M4, Q3 x4 M4 → (¬ x4 = 0) → (¬ v1 = 5) → pg_At S Λ YX11_takePart (d + 1) 79 [(0, .ref 207), (1, .int v1), (2, .int s0), (3, .int x1)] [] M4 P)
    (e4 : ∀ x1 M1, Q0 x1 M1 → (¬ 0 ≤ x1) → (s0 = 0) → ∀ x4 M4, Q3 x4 M4 → (¬ x4 = 0) → (v1 = 5) → pg_Ev S Λ YX11_wrong d [.ref 207, .int 5] M4 (fun r M' => r = none ∧ Q4 M'))
    (k5 : ∀ x1 M1, Q0 x1 M1 → (¬ 0 ≤ x1) → (s0 = 0) → ∀ x4 M4, Q3 x4 M4 → (¬ x4 = 0) → (v1 = 5) → ∀ M5, Q4 M5 → pg_At S Λ YX11_takePart (d + 1) 79 [(0, .ref 207), (1, .int v1), (2, .int s0), (3, .int x1)] [] M5 P)
    (e5 : ∀ x1 M1, Q0 x1 M1 → (¬ 0 ≤ x1) → (s0 = 0) → ∀ x4 M4, Q3 x4 M4 → (x4 = 0) → pg_Ev S Λ YX11_isWord d [.ref 207, .int 20] M4 (fun r M' => ∃ x, r = some (.int x) ∧ Q5 x M'))
    (k6 : ∀ x1 M1, Q0 x1 M1 → (¬ 0 ≤ x1) → (s0 = 0) → ∀ x4 M4, Q3 x4 M4 → (x4 = 0) → ∀ x6 M6, Q5 x6 M6 → (¬ x6 = 0) → (¬ v1 = 5) → pg_At S Λ YX11_takePart (d + 1) 79 [(0, .ref 207), (1, .int v1), (2, .int s0), (3, .int x1)] [] M6 P)
    (e6 : ∀ x1 M1, Q0 x1 M1 → (¬ 0 ≤ x1) → (s0 = 0) → ∀ x4 M4, Q3 x4 M4 → (x4 = 0) → ∀ x6 M6, Q5 x6 M6 → (¬ x6 = 0) → (v1 = 5) → pg_Ev S Λ YX11_wrong d [.ref 207, .int 5] M6 (fun r M' => r = none ∧ Q6 M'))
    (k7 : ∀ x1 M1, Q0 x1 M1 → (¬ 0 ≤ x1) → (s0 = 0) → ∀ x4 M4, Q3 x4 M4 → (x4 = 0) → ∀ x6 M6, Q5 x6 M6 → (¬ x6 = 0) → (v1 = 5) → ∀ M7, Q6 M7 → pg_At S Λ YX11_takePart (d + 1) 79 [(0, .ref 207), (1, .int v1), (2, .int s0), (3, .int x1)] [] M7 P)
    (e7 : ∀ x1 M1, Q0 x1 M1 → (¬ 0 ≤ x1) → (s0 = 0) → ∀ x4 M4, Q3 x4 M4 → (x4 = 0) → ∀ x6 M6, Q5 x6 M6 → (x6 = 0) → pg_Ev S Λ YX11_wrong d [.ref 207, .int 1] M6 (fun r M' => r = none ∧ Q7 M'))
    (k8 : ∀ x1 M1, Q0 x1 M1 → (¬ 0 ≤ x1) → (s0 = 0) → ∀ x4 M4, Q3 x4 M4 → (x4 = 0) → ∀ x6 M6, Q5 x6 M6 → (x6 = 0) → ∀ M8, Q7 M8 → pg_At S Λ YX11_takePart (d + 1) 79 [(0, .ref 207), (1, .int v1), (2, .int s0), (3, .int x1)] [] M8 P) :
    pg_At S Λ YX11_takePart (d + 1) 26 [(0, .ref 207), (1, .int v1)] [.int s0] M P := by
  refine pg_istore_n (pc := 26) (i := 2) (ls' := [(2, .int s0), (0, .ref 207), (1, .int v1)]) dX11_takePart_26 rfl (by decide) rfl ?_
  refine pg_aload_n (pc := 27) (i := 0) (j := 1) (x := 207) dX11_takePart_27 rfl rfl ?_
  refine pg_bipush (pc := 28) (v := 23) dX11_takePart_28 (by decide) ?_
  refine pg_iconst (pc := 30) (v := 3) dX11_takePart_30 (by decide) ?_
  refine pg_callV (pc := 31) (As := [.int 23, .int 3]) (st := []) okX11_wordHere lkX11_199 rfl h0.1 rfl (Nat.le_refl _) (Nat.le_of_ble_eq_true rfl) e0 dX11_takePart_31 (fun r1 M1 w1 => ?_)
  obtain ⟨x1, rfl, w1⟩ := w1
  refine pg_istore_n (pc := 34) (i := 3) (ls' := [(3, .int x1), (2, .int s0), (0, .ref 207), (1, .int v1)]) dX11_takePart_34 rfl (by decide) rfl ?_
  refine pg_iload_n (pc := 35) (i := 3) (j := 0) (x := x1) dX11_takePart_35 rfl rfl ?_
  refine pg_if_ge (pc := 36) (tgt := 69) dX11_takePart_36 (by decide) (fun c0 => ?_) (fun c0 => ?_)
  · skip
    refine pg_iload_n (pc := 69) (i := 1) (j := 3) (x := v1) dX11_takePart_69 rfl rfl ?_
    refine pg_iconst (pc := 70) (v := 5) dX11_takePart_70 (by decide) ?_
    refine pg_icmp_ne (pc := 71) (tgt := 79) dX11_takePart_71 (by decide) (fun c1 => ?_) (fun c1 => ?_)
    · skip
      refine pg_drop (ks := [2, 3, 1, 0]) (ls' := [(0, .ref 207), (1, .int v1), (2, .int s0), (3, .int x1)]) rfl ?_
      exact k0 x1 M1 w1 c0 c1
    · skip
      refine pg_aload_n (pc := 74) (i := 0) (j := 2) (x := 207) dX11_takePart_74 rfl rfl ?_
      refine pg_iconst (pc := 75) (v := 5) dX11_takePart_75 (by decide) ?_
      refine pg_callV (pc := 76) (As := [.int 5]) (st := []) okX11_wrong lkX11_183 rfl h0.1 rfl (Nat.le_refl _) (Nat.le_of_ble_eq_true rfl) (e1 x1 M1 w1 c0 c1) dX11_takePart_76 (fun r2 M2 w2 => ?_)
      obtain ⟨rfl, w2⟩ := w2
      refine pg_drop (ks := [2, 3, 1, 0]) (ls' := [(0, .ref 207), (1, .int v1), (2, .int s0), (3, .int x1)]) rfl ?_
      exact k1 x1 M1 w1 c0 c1 M2 w2
  · skip
    refine pg_iload_n (pc := 39) (i := 2) (j := 1) (x := s0) dX11_takePart_39 rfl rfl ?_
    refine pg_if_ne (pc := 40) (tgt := 69) dX11_takePart_40 (by decide) (fun c1 => ?_) (fun c1 => ?_)
    · skip
      refine pg_iload_n (pc := 69) (i := 1) (j := 3) (x := v1) dX11_takePart_69 rfl rfl ?_
      refine pg_iconst (pc := 70) (v := 5) dX11_takePart_70 (by decide) ?_
      refine pg_icmp_ne (pc := 71) (tgt := 79) dX11_takePart_71 (by decide) (fun c2 => ?_) (fun c2 => ?_)
      · skip
        refine pg_drop (ks := [2, 3, 1, 0]) (ls' := [(0, .ref 207), (1, .int v1), (2, .int s0), (3, .int x1)]) rfl ?_
        exact k2 x1 M1 w1 c0 c1 c2
      · skip
        refine pg_aload_n (pc := 74) (i := 0) (j := 2) (x := 207) dX11_takePart_74 rfl rfl ?_
        refine pg_iconst (pc := 75) (v := 5) dX11_takePart_75 (by decide) ?_
        refine pg_callV (pc := 76) (As := [.int 5]) (st := []) okX11_wrong lkX11_183 rfl h0.1 rfl (Nat.le_refl _) (Nat.le_of_ble_eq_true rfl) (e2 x1 M1 w1 c0 c1 c2) dX11_takePart_76 (fun r3 M3 w3 => ?_)
        obtain ⟨rfl, w3⟩ := w3
        refine pg_drop (ks := [2, 3, 1, 0]) (ls' := [(0, .ref 207), (1, .int v1), (2, .int s0), (3, .int x1)]) rfl ?_
        exact k3 x1 M1 w1 c0 c1 c2 M3 w3
    · skip
      refine pg_aload_n (pc := 43) (i := 0) (j := 2) (x := 207) dX11_takePart_43 rfl rfl ?_
      refine pg_bipush (pc := 44) (v := 40) dX11_takePart_44 (by decide) ?_
      refine pg_callV (pc := 46) (As := [.int 40]) (st := []) okX11_isSign lkX11_180 rfl h0.1 rfl (Nat.le_refl _) (Nat.le_of_ble_eq_true rfl) (e3 x1 M1 w1 c0 c1) dX11_takePart_46 (fun r4 M4 w4 => ?_)
      obtain ⟨x4, rfl, w4⟩ := w4
      refine pg_if_ne (pc := 49) (tgt := 69) dX11_takePart_49 (by decide) (fun c2 => ?_) (fun c2 => ?_)
      · skip
        refine pg_iload_n (pc := 69) (i := 1) (j := 3) (x := v1) dX11_takePart_69 rfl rfl ?_
        refine pg_iconst (pc := 70) (v := 5) dX11_takePart_70 (by decide) ?_
        refine pg_icmp_ne (pc := 71) (tgt := 79) dX11_takePart_71 (by decide) (fun c3 => ?_) (fun c3 => ?_)
        · skip
          refine pg_drop (ks := [2, 3, 1, 0]) (ls' := [(0, .ref 207), (1, .int v1), (2, .int s0), (3, .int x1)]) rfl ?_
          exact k4 x1 M1 w1 c0 c1 x4 M4 w4 c2 c3
        · skip
          refine pg_aload_n (pc := 74) (i := 0) (j := 2) (x := 207) dX11_takePart_74 rfl rfl ?_
          refine pg_iconst (pc := 75) (v := 5) dX11_takePart_75 (by decide) ?_
          refine pg_callV (pc := 76) (As := [.int 5]) (st := []) okX11_wrong lkX11_183 rfl h0.1 rfl (Nat.le_refl _) (Nat.le_of_ble_eq_true rfl) (e4 x1 M1 w1 c0 c1 x4 M4 w4 c2 c3) dX11_takePart_76 (fun r5 M5 w5 => ?_)
          obtain ⟨rfl, w5⟩ := w5
          refine pg_drop (ks := [2, 3, 1, 0]) (ls' := [(0, .ref 207), (1, .int v1), (2, .int s0), (3, .int x1)]) rfl ?_
          exact k5 x1 M1 w1 c0 c1 x4 M4 w4 c2 c3 M5 w5
      · skip
        refine pg_aload_n (pc := 52) (i := 0) (j := 2) (x := 207) dX11_takePart_52 rfl rfl ?_
        refine pg_bipush (pc := 53) (v := 20) dX11_takePart_53 (by decide) ?_
        refine pg_callV (pc := 55) (As := [.int 20]) (st := []) okX11_isWord lkX11_186 rfl h0.1 rfl (Nat.le_refl _) (Nat.le_of_ble_eq_true rfl) (e5 x1 M1 w1 c0 c1 x4 M4 w4 c2) dX11_takePart_55 (fun r6 M6 w6 => ?_)
        obtain ⟨x6, rfl, w6⟩ := w6
        refine pg_if_ne (pc := 58) (tgt := 69) dX11_takePart_58 (by decide) (fun c3 => ?_) (fun c3 => ?_)
        · skip
          refine pg_iload_n (pc := 69) (i := 1) (j := 3) (x := v1) dX11_takePart_69 rfl rfl ?_
          refine pg_iconst (pc := 70) (v := 5) dX11_takePart_70 (by decide) ?_
          refine pg_icmp_ne (pc := 71) (tgt := 79) dX11_takePart_71 (by decide) (fun c4 => ?_) (fun c4 => ?_)
          · skip
            refine pg_drop (ks := [2, 3, 1, 0]) (ls' := [(0, .ref 207), (1, .int v1), (2, .int s0), (3, .int x1)]) rfl ?_
            exact k6 x1 M1 w1 c0 c1 x4 M4 w4 c2 x6 M6 w6 c3 c4
          · skip
            refine pg_aload_n (pc := 74) (i := 0) (j := 2) (x := 207) dX11_takePart_74 rfl rfl ?_
            refine pg_iconst (pc := 75) (v := 5) dX11_takePart_75 (by decide) ?_
            refine pg_callV (pc := 76) (As := [.int 5]) (st := []) okX11_wrong lkX11_183 rfl h0.1 rfl (Nat.le_refl _) (Nat.le_of_ble_eq_true rfl) (e6 x1 M1 w1 c0 c1 x4 M4 w4 c2 x6 M6 w6 c3 c4) dX11_takePart_76 (fun r7 M7 w7 => ?_)
            obtain ⟨rfl, w7⟩ := w7
            refine pg_drop (ks := [2, 3, 1, 0]) (ls' := [(0, .ref 207), (1, .int v1), (2, .int s0), (3, .int x1)]) rfl ?_
            exact k7 x1 M1 w1 c0 c1 x4 M4 w4 c2 x6 M6 w6 c3 c4 M7 w7
        · skip
          refine pg_aload_n (pc := 61) (i := 0) (j := 2) (x := 207) dX11_takePart_61 rfl rfl ?_
          refine pg_iconst (pc := 62) (v := 1) dX11_takePart_62 (by decide) ?_
          refine pg_callV (pc := 63) (As := [.int 1]) (st := []) okX11_wrong lkX11_183 rfl h0.1 rfl (Nat.le_refl _) (Nat.le_of_ble_eq_true rfl) (e7 x1 M1 w1 c0 c1 x4 M4 w4 c2 x6 M6 w6 c3) dX11_takePart_63 (fun r8 M8 w8 => ?_)
          obtain ⟨rfl, w8⟩ := w8
          refine pg_goto (pc := 66) (tgt := 79) dX11_takePart_66 (by decide) ?_
          refine pg_drop (ks := [2, 3, 1, 0]) (ls' := [(0, .ref 207), (1, .int v1), (2, .int s0), (3, .int x1)]) rfl ?_
          exact k8 x1 M1 w1 c0 c1 x4 M4 w4 c2 x6 M6 w6 c3 M8 w8
theorem sX11_takePart_79 {v1 : Int32} {v2 : Int32} {v3 : Int32} {Q0 : Int32 → pg_M → Prop} {Q1 : Int32 → pg_M → Prop} {Q2 : pg_M → Prop} {Q3 : pg_M → Prop} {Q4 : pg_M → Prop} {Q5 : pg_M → Prop} {Q6 : pg_M → Prop} {Q7 : pg_M → Prop} {Q8 : pg_M → Prop} {Q9 : pg_M → Prop}
    (h0 : pg_isX11 Λ)
    (e0 : ((M.1 207 8) ≤ 0) → pg_Ev S Λ YX11_hasWord d [.ref 207, .int 20] M (fun r M' => ∃ x, r = some (.int x) ∧ Q0 x M'))
    (e1 : ((M.1 207 8) ≤ 0) → ∀ x1 M1, Q0 x1 M1 → (x1 = 0) → pg_Ev S Λ YX11_hasSign d [.ref 207, .int 40] M1 (fun r M' => ∃ x, r = some (.int x) ∧ Q1 x M'))
    (e2 : ((M.1 207 8) ≤ 0) → ∀ x1 M1, Q0 x1 M1 → (x1 = 0) → ∀ x2 M2, Q1 x2 M2 → (x2 = 0) → (v2 = 0) → (v2 = 0) → pg_Ev S Λ YX11_emit d [.ref 207, .int 2, .int v3] M2 (fun r M' => r = none ∧ Q2 M'))
    (k0 : ((M.1 207 8) ≤ 0) → ∀ x1 M1, Q0 x1 M1 → (x1 = 0) → ∀ x2 M2, Q1 x2 M2 → (x2 = 0) → (v2 = 0) → (v2 = 0) → ∀ M3, Q2 M3 → P none (pg_si M3 207 7 ((M3.1 207 7) + 1)))
    (b0 : ((M.1 207 8) ≤ 0) → ∀ x1 M1, Q0 x1 M1 → (x1 = 0) → ∀ x2 M2, Q1 x2 M2 → (x2 = 0) → (v2 = 0) → (¬ v2 = 0) → vp_in (M2.1 207 7) 1002)
    (e3 : ((M.1 207 8) ≤ 0) → ∀ x1 M1, Q0 x1 M1 → (x1 = 0) → ∀ x2 M2, Q1 x2 M2 → (x2 = 0) → (v2 = 0) → (¬ v2 = 0) → pg_Ev S Λ YX11_emit d [.ref 207, .int 2, .int ((M2.2.1 211 (M2.1 207 7).toNatClampNeg).toInt32)] M2 (fun r M' => r = none ∧ Q3 M'))
    (k1 : ((M.1 207 8) ≤ 0) → ∀ x1 M1, Q0 x1 M1 → (x1 = 0) → ∀ x2 M2, Q1 x2 M2 → (x2 = 0) → (v2 = 0) → (¬ v2 = 0) → ∀ M4, Q3 M4 → P none (pg_si M4 207 7 ((M4.1 207 7) + 1)))
    (e4 : ((M.1 207 8) ≤ 0) → ∀ x1 M1, Q0 x1 M1 → (x1 = 0) → ∀ x2 M2, Q1 x2 M2 → (x2 = 0) → (¬ v2 = 0) → (v2 = 0) → pg_Ev S Λ YX11_emit d [.ref 207, .int 1, .int v3] M2 (fun r M' => r = none ∧ Q4 M'))
    (k2 : ((M.1 207 8) ≤ 0) → ∀ x1 M1, Q0 x1 M1 → (x1 = 0) → ∀ x2 M2, Q1 x2 M2 → (x2 = 0) → (¬ v2 = 0) → (v2 = 0) → ∀ M5, Q4 M5 → P none (pg_si M5 207 7 ((M5.1 207 7) + 1)))
    (b1 : ((M.1 207 8) ≤ 0) → ∀ x1 M1, Q0 x1 M1 → (x1 = 0) → ∀ x2 M2, Q1 x2 M2 → (x2 = 0) → (¬ v2 = 0) → (¬ v2 = 0) → vp_in (M2.1 207 7) 1002)
    (e5 : ((M.1 207 8) ≤ 0) → ∀ x1 M1, Q0 x1 M1 → (x1 = 0) → ∀ x2 M2, Q1 x2 M2 → (x2 = 0) → (¬ v2 = 0) → (¬ v2 = 0) → pg_Ev S Λ YX11_emit d [.ref 207, .int 1, .int ((M2.2.1 211 (M2.1 207 7).toNatClampNeg).toInt32)] M2 (fun r M' => r = none ∧ Q5 M'))
    (k3 : ((M.1 207 8) ≤ 0) → ∀ x1 M1, Q0 x1 M1 → (x1 = 0) → ∀ x2 M2, Q1 x2 M2 → (x2 = 0) → (¬ v2 = 0) → (¬ v2 = 0) → ∀ M6, Q5 M6 → P none (pg_si M6 207 7 ((M6.1 207 7) + 1)))
    (e6 : ((M.1 207 8) ≤ 0) → ∀ x1 M1, Q0 x1 M1 → (x1 = 0) → ∀ x2 M2, Q1 x2 M2 → (¬ x2 = 0) → pg_Ev S Λ YX11_all d [.ref 207, .int (v1 + 1)] M2 (fun r M' => r = none ∧ Q6 M'))
    (e7 : ((M.1 207 8) ≤ 0) → ∀ x1 M1, Q0 x1 M1 → (x1 = 0) → ∀ x2 M2, Q1 x2 M2 → (¬ x2 = 0) → ∀ M7, Q6 M7 → pg_Ev S Λ YX11_takeSign d [.ref 207, .int 41] M7 (fun r M' => r = none ∧ Q7 M'))
    (k4 : ((M.1 207 8) ≤ 0) → ∀ x1 M1, Q0 x1 M1 → (x1 = 0) → ∀ x2 M2, Q1 x2 M2 → (¬ x2 = 0) → ∀ M7, Q6 M7 → ∀ M8, Q7 M8 → P none M8)
    (e8 : ((M.1 207 8) ≤ 0) → ∀ x1 M1, Q0 x1 M1 → (¬ x1 = 0) → pg_Ev S Λ YX11_takePart d [.ref 207, .int (v1 + 1)] M1 (fun r M' => r = none ∧ Q8 M'))
    (e9 : ((M.1 207 8) ≤ 0) → ∀ x1 M1, Q0 x1 M1 → (¬ x1 = 0) → ∀ M9, Q8 M9 → pg_Ev S Λ YX11_emit d [.ref 207, .int 3, .int 0] M9 (fun r M' => r = none ∧ Q9 M'))
    (k5 : ((M.1 207 8) ≤ 0) → ∀ x1 M1, Q0 x1 M1 → (¬ x1 = 0) → ∀ M9, Q8 M9 → ∀ M10, Q9 M10 → P none M10)
    (k6 : (¬ (M.1 207 8) ≤ 0) → P none M) :
    pg_At S Λ YX11_takePart (d + 1) 79 [(0, .ref 207), (1, .int v1), (2, .int v2), (3, .int v3)] [] M P := by
  refine pg_aload_n (pc := 79) (i := 0) (j := 0) (x := 207) dX11_takePart_79 rfl rfl ?_
  refine gfX11_177 (pc := 80) rfl h0 dX11_takePart_80 ?_
  refine pg_if_le (pc := 83) (tgt := 87) dX11_takePart_83 (by decide) (fun c0 => ?_) (fun c0 => ?_)
  · skip
    refine pg_aload_n (pc := 87) (i := 0) (j := 0) (x := 207) dX11_takePart_87 rfl rfl ?_
    refine pg_bipush (pc := 88) (v := 20) dX11_takePart_88 (by decide) ?_
    refine pg_callV (pc := 90) (As := [.int 20]) (st := []) okX11_hasWord lkX11_189 rfl h0.1 rfl (Nat.le_refl _) (Nat.le_of_ble_eq_true rfl) (e0 c0) dX11_takePart_90 (fun r1 M1 w1 => ?_)
    obtain ⟨x1, rfl, w1⟩ := w1
    refine pg_if_eq (pc := 93) (tgt := 112) dX11_takePart_93 (by decide) (fun c1 => ?_) (fun c1 => ?_)
    · skip
      refine pg_aload_n (pc := 112) (i := 0) (j := 0) (x := 207) dX11_takePart_112 rfl rfl ?_
      refine pg_bipush (pc := 113) (v := 40) dX11_takePart_113 (by decide) ?_
      refine pg_callV (pc := 115) (As := [.int 40]) (st := []) okX11_hasSign lkX11_270 rfl h0.1 rfl (Nat.le_refl _) (Nat.le_of_ble_eq_true rfl) (e1 c0 x1 M1 w1 c1) dX11_takePart_115 (fun r2 M2 w2 => ?_)
      obtain ⟨x2, rfl, w2⟩ := w2
      refine pg_if_eq (pc := 118) (tgt := 137) dX11_takePart_118 (by decide) (fun c2 => ?_) (fun c2 => ?_)
      · skip
        refine pg_aload_n (pc := 137) (i := 0) (j := 0) (x := 207) dX11_takePart_137 rfl rfl ?_
        refine pg_iload_n (pc := 138) (i := 2) (j := 2) (x := v2) dX11_takePart_138 rfl rfl ?_
        refine pg_if_eq (pc := 139) (tgt := 146) dX11_takePart_139 (by decide) (fun c3 => ?_) (fun c3 => ?_)
        · skip
          refine pg_iconst (pc := 146) (v := 2) dX11_takePart_146 (by decide) ?_
          refine pg_iload_n (pc := 147) (i := 2) (j := 2) (x := v2) dX11_takePart_147 rfl rfl ?_
          refine pg_if_eq (pc := 148) (tgt := 164) dX11_takePart_148 (by decide) (fun c4 => ?_) (fun c4 => ?_)
          · skip
            refine pg_iload_n (pc := 164) (i := 3) (j := 3) (x := v3) dX11_takePart_164 rfl rfl ?_
            refine pg_callV (pc := 165) (As := [.int 2, .int v3]) (st := []) okX11_emit lkX11_256 rfl h0.1 rfl (Nat.le_refl _) (Nat.le_of_ble_eq_true rfl) (e2 c0 x1 M1 w1 c1 x2 M2 w2 c2 c3 c4) dX11_takePart_165 (fun r3 M3 w3 => ?_)
            obtain ⟨rfl, w3⟩ := w3
            refine pg_aload_n (pc := 168) (i := 0) (j := 0) (x := 207) dX11_takePart_168 rfl rfl ?_
            refine pg_dup (pc := 169) dX11_takePart_169 rfl ?_
            refine gfX11_174 (pc := 170) rfl h0 dX11_takePart_170 ?_
            refine pg_iconst (pc := 173) (v := 1) dX11_takePart_173 (by decide) ?_
            refine pg_iadd (pc := 174) dX11_takePart_174 ?_
            refine pfX11_174 (pc := 175) rfl h0 dX11_takePart_175 ?_
            exact pg_vret (pc := 178) rfl dX11_takePart_178 (k0 c0 x1 M1 w1 c1 x2 M2 w2 c2 c3 c4 M3 w3)
          · skip
            refine pg_aload_n (pc := 151) (i := 0) (j := 0) (x := 207) dX11_takePart_151 rfl rfl ?_
            refine gfX11_30 (pc := 152) rfl h0 dX11_takePart_152 ?_
            refine pg_aload_n (pc := 155) (i := 0) (j := 0) (x := 207) dX11_takePart_155 rfl rfl ?_
            refine gfX11_174 (pc := 156) rfl h0 dX11_takePart_156 ?_
            refine pg_lald (pc := 159) h0.2.2.2.2.1 (b0 c0 x1 M1 w1 c1 x2 M2 w2 c2 c3 c4) dX11_takePart_159 ?_
            refine pg_l2i (pc := 160) dX11_takePart_160 rfl ?_
            refine pg_goto (pc := 161) (tgt := 165) dX11_takePart_161 (by decide) ?_
            refine pg_callV (pc := 165) (As := [.int 2, .int ((M2.2.1 211 (M2.1 207 7).toNatClampNeg).toInt32)]) (st := []) okX11_emit lkX11_256 rfl h0.1 rfl (Nat.le_refl _) (Nat.le_of_ble_eq_true rfl) (e3 c0 x1 M1 w1 c1 x2 M2 w2 c2 c3 c4) dX11_takePart_165 (fun r4 M4 w4 => ?_)
            obtain ⟨rfl, w4⟩ := w4
            refine pg_aload_n (pc := 168) (i := 0) (j := 0) (x := 207) dX11_takePart_168 rfl rfl ?_
            refine pg_dup (pc := 169) dX11_takePart_169 rfl ?_
            refine gfX11_174 (pc := 170) rfl h0 dX11_takePart_170 ?_
            refine pg_iconst (pc := 173) (v := 1) dX11_takePart_173 (by decide) ?_
            refine pg_iadd (pc := 174) dX11_takePart_174 ?_
            refine pfX11_174 (pc := 175) rfl h0 dX11_takePart_175 ?_
            exact pg_vret (pc := 178) rfl dX11_takePart_178 (k1 c0 x1 M1 w1 c1 x2 M2 w2 c2 c3 c4 M4 w4)
        · skip
          refine pg_iconst (pc := 142) (v := 1) dX11_takePart_142 (by decide) ?_
          refine pg_goto (pc := 143) (tgt := 147) dX11_takePart_143 (by decide) ?_
          refine pg_iload_n (pc := 147) (i := 2) (j := 2) (x := v2) dX11_takePart_147 rfl rfl ?_
          refine pg_if_eq (pc := 148) (tgt := 164) dX11_takePart_148 (by decide) (fun c4 => ?_) (fun c4 => ?_)
          · skip
            refine pg_iload_n (pc := 164) (i := 3) (j := 3) (x := v3) dX11_takePart_164 rfl rfl ?_
            refine pg_callV (pc := 165) (As := [.int 1, .int v3]) (st := []) okX11_emit lkX11_256 rfl h0.1 rfl (Nat.le_refl _) (Nat.le_of_ble_eq_true rfl) (e4 c0 x1 M1 w1 c1 x2 M2 w2 c2 c3 c4) dX11_takePart_165 (fun r5 M5 w5 => ?_)
            obtain ⟨rfl, w5⟩ := w5
            refine pg_aload_n (pc := 168) (i := 0) (j := 0) (x := 207) dX11_takePart_168 rfl rfl ?_
            refine pg_dup (pc := 169) dX11_takePart_169 rfl ?_
            refine gfX11_174 (pc := 170) rfl h0 dX11_takePart_170 ?_
            refine pg_iconst (pc := 173) (v := 1) dX11_takePart_173 (by decide) ?_
            refine pg_iadd (pc := 174) dX11_takePart_174 ?_
            refine pfX11_174 (pc := 175) rfl h0 dX11_takePart_175 ?_
            exact pg_vret (pc := 178) rfl dX11_takePart_178 (k2 c0 x1 M1 w1 c1 x2 M2 w2 c2 c3 c4 M5 w5)
          · skip
            refine pg_aload_n (pc := 151) (i := 0) (j := 0) (x := 207) dX11_takePart_151 rfl rfl ?_
            refine gfX11_30 (pc := 152) rfl h0 dX11_takePart_152 ?_
            refine pg_aload_n (pc := 155) (i := 0) (j := 0) (x := 207) dX11_takePart_155 rfl rfl ?_
            refine gfX11_174 (pc := 156) rfl h0 dX11_takePart_156 ?_
            refine pg_lald (pc := 159) h0.2.2.2.2.1 (b1 c0 x1 M1 w1 c1 x2 M2 w2 c2 c3 c4) dX11_takePart_159 ?_
            refine pg_l2i (pc := 160) dX11_takePart_160 rfl ?_
            refine pg_goto (pc := 161) (tgt := 165) dX11_takePart_161 (by decide) ?_
            refine pg_callV (pc := 165) (As := [.int 1, .int ((M2.2.1 211 (M2.1 207 7).toNatClampNeg).toInt32)]) (st := []) okX11_emit lkX11_256 rfl h0.1 rfl (Nat.le_refl _) (Nat.le_of_ble_eq_true rfl) (e5 c0 x1 M1 w1 c1 x2 M2 w2 c2 c3 c4) dX11_takePart_165 (fun r6 M6 w6 => ?_)
            obtain ⟨rfl, w6⟩ := w6
            refine pg_aload_n (pc := 168) (i := 0) (j := 0) (x := 207) dX11_takePart_168 rfl rfl ?_
            refine pg_dup (pc := 169) dX11_takePart_169 rfl ?_
            refine gfX11_174 (pc := 170) rfl h0 dX11_takePart_170 ?_
            refine pg_iconst (pc := 173) (v := 1) dX11_takePart_173 (by decide) ?_
            refine pg_iadd (pc := 174) dX11_takePart_174 ?_
            refine pfX11_174 (pc := 175) rfl h0 dX11_takePart_175 ?_
            exact pg_vret (pc := 178) rfl dX11_takePart_178 (k3 c0 x1 M1 w1 c1 x2 M2 w2 c2 c3 c4 M6 w6)
      · skip
        refine pg_aload_n (pc := 121) (i := 0) (j := 0) (x := 207) dX11_takePart_121 rfl rfl ?_
        refine pg_iload_n (pc := 122) (i := 1) (j := 1) (x := v1) dX11_takePart_122 rfl rfl ?_
        refine pg_iconst (pc := 123) (v := 1) dX11_takePart_123 (by decide) ?_
        refine pg_iadd (pc := 124) dX11_takePart_124 ?_
        refine pg_callV (pc := 125) (As := [.int (v1 + 1)]) (st := []) okX11_all lkX11_253 rfl h0.1 rfl (Nat.le_refl _) (Nat.le_of_ble_eq_true rfl) (e6 c0 x1 M1 w1 c1 x2 M2 w2 c2) dX11_takePart_125 (fun r7 M7 w7 => ?_)
        obtain ⟨rfl, w7⟩ := w7
        refine pg_aload_n (pc := 128) (i := 0) (j := 0) (x := 207) dX11_takePart_128 rfl rfl ?_
        refine pg_bipush (pc := 129) (v := 41) dX11_takePart_129 (by decide) ?_
        refine pg_callV (pc := 131) (As := [.int 41]) (st := []) okX11_takeSign lkX11_237 rfl h0.1 rfl (Nat.le_refl _) (Nat.le_of_ble_eq_true rfl) (e7 c0 x1 M1 w1 c1 x2 M2 w2 c2 M7 w7) dX11_takePart_131 (fun r8 M8 w8 => ?_)
        obtain ⟨rfl, w8⟩ := w8
        refine pg_goto (pc := 134) (tgt := 178) dX11_takePart_134 (by decide) ?_
        exact pg_vret (pc := 178) rfl dX11_takePart_178 (k4 c0 x1 M1 w1 c1 x2 M2 w2 c2 M7 w7 M8 w8)
    · skip
      refine pg_aload_n (pc := 96) (i := 0) (j := 0) (x := 207) dX11_takePart_96 rfl rfl ?_
      refine pg_iload_n (pc := 97) (i := 1) (j := 1) (x := v1) dX11_takePart_97 rfl rfl ?_
      refine pg_iconst (pc := 98) (v := 1) dX11_takePart_98 (by decide) ?_
      refine pg_iadd (pc := 99) dX11_takePart_99 ?_
      refine pg_callV (pc := 100) (As := [.int (v1 + 1)]) (st := []) okX11_takePart lkX11_276 rfl h0.1 rfl (Nat.le_refl _) (Nat.le_of_ble_eq_true rfl) (e8 c0 x1 M1 w1 c1) dX11_takePart_100 (fun r9 M9 w9 => ?_)
      obtain ⟨rfl, w9⟩ := w9
      refine pg_aload_n (pc := 103) (i := 0) (j := 0) (x := 207) dX11_takePart_103 rfl rfl ?_
      refine pg_iconst (pc := 104) (v := 3) dX11_takePart_104 (by decide) ?_
      refine pg_iconst (pc := 105) (v := 0) dX11_takePart_105 (by decide) ?_
      refine pg_callV (pc := 106) (As := [.int 3, .int 0]) (st := []) okX11_emit lkX11_256 rfl h0.1 rfl (Nat.le_refl _) (Nat.le_of_ble_eq_true rfl) (e9 c0 x1 M1 w1 c1 M9 w9) dX11_takePart_106 (fun r10 M10 w10 => ?_)
      obtain ⟨rfl, w10⟩ := w10
      refine pg_goto (pc := 109) (tgt := 178) dX11_takePart_109 (by decide) ?_
      exact pg_vret (pc := 178) rfl dX11_takePart_178 (k5 c0 x1 M1 w1 c1 M9 w9 M10 w10)
  · skip
    exact pg_vret (pc := 86) rfl dX11_takePart_86 (k6 c0)
theorem oX11_takePart {d : Nat} {v1 : Int32} (h : pg_At S Λ YX11_takePart d 0 [(0, .ref 207), (1, .int v1)] [] M P) : pg_Ev S Λ YX11_takePart d [.ref 207, .int v1] M P := pg_Ev.of (by decide) (by first | decide | exact Nat.le_of_ble_eq_true rfl) h
theorem sX11_worthAt_0 {v1 : Int32} 
    (k0 : pg_At S Λ YX11_worthAt (d + 1) 4 [(0, .ref 207), (2, .int 0), (3, .int v1)] [] M P) :
    pg_At S Λ YX11_worthAt (d + 1) 0 [(0, .ref 207), (1, .int v1)] [] M P := by
  refine pg_iconst (pc := 0) (v := 0) dX11_worthAt_0 (by decide) ?_
  refine pg_istore_n (pc := 1) (i := 2) (ls' := [(2, .int 0), (0, .ref 207), (1, .int v1)]) dX11_worthAt_1 rfl (by decide) rfl ?_
  refine pg_iload_n (pc := 2) (i := 1) (j := 2) (x := v1) dX11_worthAt_2 rfl rfl ?_
  refine pg_istore_n (pc := 3) (i := 3) (ls' := [(3, .int v1), (2, .int 0), (0, .ref 207), (1, .int v1)]) dX11_worthAt_3 rfl (by decide) rfl ?_
  refine pg_drop (ks := [2, 1, 0]) (ls' := [(0, .ref 207), (2, .int 0), (3, .int v1)]) rfl ?_
  exact k0
theorem sX11_worthAt_4 {v2 : Int32} {v3 : Int32} {Q0 : Int32 → pg_M → Prop}
    (h0 : pg_isX11 Λ)
    (b0 : vp_in v3 2200)
    (k0 : ((M.1 214 v3.toNatClampNeg) = 0) → P (some (.int (M.1 220 (0 : Int32).toNatClampNeg))) M)
    (b1 : (¬ (M.1 214 v3.toNatClampNeg) = 0) → ((M.1 214 v3.toNatClampNeg) = 1) → (¬ (M.1 214 v3.toNatClampNeg) = 1) → vp_in (M.1 215 v3.toNatClampNeg) 3)
    (b2 : (¬ (M.1 214 v3.toNatClampNeg) = 0) → ((M.1 214 v3.toNatClampNeg) = 1) → (¬ (M.1 214 v3.toNatClampNeg) = 1) → vp_in v2 1100)
    (k1 : (¬ (M.1 214 v3.toNatClampNeg) = 0) → ((M.1 214 v3.toNatClampNeg) = 1) → (¬ (M.1 214 v3.toNatClampNeg) = 1) → pg_At S Λ YX11_worthAt (d + 1) 4 [(0, .ref 207), (2, .int (v2 + 1)), (3, .int (v3 + 1))] [] (pg_si M 220 v2.toNatClampNeg (M.1 219 (M.1 215 v3.toNatClampNeg).toNatClampNeg)) P)
    (b3 : (¬ (M.1 214 v3.toNatClampNeg) = 0) → ((M.1 214 v3.toNatClampNeg) = 1) → ((M.1 214 v3.toNatClampNeg) = 1) → vp_in v2 1100)
    (k2 : (¬ (M.1 214 v3.toNatClampNeg) = 0) → ((M.1 214 v3.toNatClampNeg) = 1) → ((M.1 214 v3.toNatClampNeg) = 1) → pg_At S Λ YX11_worthAt (d + 1) 4 [(0, .ref 207), (2, .int (v2 + 1)), (3, .int (v3 + 1))] [] (pg_si M 220 v2.toNatClampNeg (M.1 215 v3.toNatClampNeg)) P)
    (b4 : (¬ (M.1 214 v3.toNatClampNeg) = 0) → (¬ (M.1 214 v3.toNatClampNeg) = 1) → (¬ (M.1 214 v3.toNatClampNeg) = 2) → (¬ (M.1 214 v3.toNatClampNeg) = 3) → vp_in ((v2 + (-1)) - 1) 1100)
    (b5 : (¬ (M.1 214 v3.toNatClampNeg) = 0) → (¬ (M.1 214 v3.toNatClampNeg) = 1) → (¬ (M.1 214 v3.toNatClampNeg) = 2) → (¬ (M.1 214 v3.toNatClampNeg) = 3) → vp_in (v2 + (-1)) 1100)
    (e0 : (¬ (M.1 214 v3.toNatClampNeg) = 0) → (¬ (M.1 214 v3.toNatClampNeg) = 1) → (¬ (M.1 214 v3.toNatClampNeg) = 2) → (¬ (M.1 214 v3.toNatClampNeg) = 3) → pg_Ev S Λ YX11_both d [.int (M.1 214 v3.toNatClampNeg), .int (M.1 220 ((v2 + (-1)) - 1).toNatClampNeg), .int (M.1 220 (v2 + (-1)).toNatClampNeg)] M (fun r M' => ∃ x, r = some (.int x) ∧ Q0 x M'))
    (k3 : (¬ (M.1 214 v3.toNatClampNeg) = 0) → (¬ (M.1 214 v3.toNatClampNeg) = 1) → (¬ (M.1 214 v3.toNatClampNeg) = 2) → (¬ (M.1 214 v3.toNatClampNeg) = 3) → ∀ x1 M1, Q0 x1 M1 → pg_At S Λ YX11_worthAt (d + 1) 4 [(0, .ref 207), (2, .int (v2 + (-1))), (3, .int (v3 + 1))] [] (pg_si M1 220 ((v2 + (-1)) - 1).toNatClampNeg x1) P)
    (b6 : (¬ (M.1 214 v3.toNatClampNeg) = 0) → (¬ (M.1 214 v3.toNatClampNeg) = 1) → (¬ (M.1 214 v3.toNatClampNeg) = 2) → ((M.1 214 v3.toNatClampNeg) = 3) → vp_in (v2 - 1) 1100)
    (k4 : (¬ (M.1 214 v3.toNatClampNeg) = 0) → (¬ (M.1 214 v3.toNatClampNeg) = 1) → (¬ (M.1 214 v3.toNatClampNeg) = 2) → ((M.1 214 v3.toNatClampNeg) = 3) → (¬ (M.1 220 (v2 - 1).toNatClampNeg) = 0) → pg_At S Λ YX11_worthAt (d + 1) 4 [(0, .ref 207), (2, .int v2), (3, .int (v3 + 1))] [] (pg_si M 220 (v2 - 1).toNatClampNeg 0) P)
    (k5 : (¬ (M.1 214 v3.toNatClampNeg) = 0) → (¬ (M.1 214 v3.toNatClampNeg) = 1) → (¬ (M.1 214 v3.toNatClampNeg) = 2) → ((M.1 214 v3.toNatClampNeg) = 3) → ((M.1 220 (v2 - 1).toNatClampNeg) = 0) → pg_At S Λ YX11_worthAt (d + 1) 4 [(0, .ref 207), (2, .int v2), (3, .int (v3 + 1))] [] (pg_si M 220 (v2 - 1).toNatClampNeg 1) P)
    (b7 : (¬ (M.1 214 v3.toNatClampNeg) = 0) → (¬ (M.1 214 v3.toNatClampNeg) = 1) → ((M.1 214 v3.toNatClampNeg) = 2) → (¬ (M.1 214 v3.toNatClampNeg) = 1) → vp_in (M.1 215 v3.toNatClampNeg) 3)
    (b8 : (¬ (M.1 214 v3.toNatClampNeg) = 0) → (¬ (M.1 214 v3.toNatClampNeg) = 1) → ((M.1 214 v3.toNatClampNeg) = 2) → (¬ (M.1 214 v3.toNatClampNeg) = 1) → vp_in v2 1100)
    (k6 : (¬ (M.1 214 v3.toNatClampNeg) = 0) → (¬ (M.1 214 v3.toNatClampNeg) = 1) → ((M.1 214 v3.toNatClampNeg) = 2) → (¬ (M.1 214 v3.toNatClampNeg) = 1) → pg_At S Λ YX11_worthAt (d + 1) 4 [(0, .ref 207), (2, .int (v2 + 1)), (3, .int (v3 + 1))] [] (pg_si M 220 v2.toNatClampNeg (M.1 219 (M.1 215 v3.toNatClampNeg).toNatClampNeg)) P)
    (b9 : (¬ (M.1 214 v3.toNatClampNeg) = 0) → (¬ (M.1 214 v3.toNatClampNeg) = 1) → ((M.1 214 v3.toNatClampNeg) = 2) → ((M.1 214 v3.toNatClampNeg) = 1) → vp_in v2 1100)
    (k7 : (¬ (M.1 214 v3.toNatClampNeg) = 0) → (¬ (M.1 214 v3.toNatClampNeg) = 1) → ((M.1 214 v3.toNatClampNeg) = 2) → ((M.1 214 v3.toNatClampNeg) = 1) → pg_At S Λ YX11_worthAt (d + 1) 4 [(0, .ref 207), (2, .int (v2 + 1)), (3, .int (v3 + 1))] [] (pg_si M 220 v2.toNatClampNeg (M.1 215 v3.toNatClampNeg)) P) :
    pg_At S Λ YX11_worthAt (d + 1) 4 [(0, .ref 207), (2, .int v2), (3, .int v3)] [] M P := by
  refine pg_aload_n (pc := 4) (i := 0) (j := 0) (x := 207) dX11_worthAt_4 rfl rfl ?_
  refine gfX11_92 (pc := 5) rfl h0 dX11_worthAt_5 ?_
  refine pg_iload_n (pc := 8) (i := 3) (j := 2) (x := v3) dX11_worthAt_8 rfl rfl ?_
  refine pg_iald (pc := 9) h0.2.2.2.2.2.2.2.1 b0 dX11_worthAt_9 ?_
  refine pg_if_eq (pc := 10) (tgt := 140) dX11_worthAt_10 (by decide) (fun c0 => ?_) (fun c0 => ?_)
  · skip
    refine pg_aload_n (pc := 140) (i := 0) (j := 0) (x := 207) dX11_worthAt_140 rfl rfl ?_
    refine gfX11_110 (pc := 141) rfl h0 dX11_worthAt_141 ?_
    refine pg_iconst (pc := 144) (v := 0) dX11_worthAt_144 (by decide) ?_
    refine pg_iald (pc := 145) h0.2.2.2.2.2.2.2.2.2.2.2.2.2.1 (by unfold vp_in; decide) dX11_worthAt_145 ?_
    exact pg_iret (pc := 146) rfl dX11_worthAt_146 (k0 c0)
  · skip
    refine pg_aload_n (pc := 13) (i := 0) (j := 0) (x := 207) dX11_worthAt_13 rfl rfl ?_
    refine gfX11_92 (pc := 14) rfl h0 dX11_worthAt_14 ?_
    refine pg_iload_n (pc := 17) (i := 3) (j := 2) (x := v3) dX11_worthAt_17 rfl rfl ?_
    refine pg_iald (pc := 18) h0.2.2.2.2.2.2.2.1 b0 dX11_worthAt_18 ?_
    refine pg_istore (pc := 19) (i := 4) (ls' := [(4, .int (M.1 214 v3.toNatClampNeg)), (0, .ref 207), (2, .int v2), (3, .int v3)]) dX11_worthAt_19 (by decide) rfl ?_
    refine pg_iload (pc := 21) (i := 4) (j := 0) (x := (M.1 214 v3.toNatClampNeg)) dX11_worthAt_21 rfl ?_
    refine pg_iconst (pc := 23) (v := 1) dX11_worthAt_23 (by decide) ?_
    refine pg_icmp_eq (pc := 24) (tgt := 33) dX11_worthAt_24 (by decide) (fun c1 => ?_) (fun c1 => ?_)
    · skip
      refine pg_aload_n (pc := 33) (i := 0) (j := 1) (x := 207) dX11_worthAt_33 rfl rfl ?_
      refine gfX11_110 (pc := 34) rfl h0 dX11_worthAt_34 ?_
      refine pg_iload_n (pc := 37) (i := 2) (j := 2) (x := v2) dX11_worthAt_37 rfl rfl ?_
      refine pg_iload (pc := 38) (i := 4) (j := 0) (x := (M.1 214 v3.toNatClampNeg)) dX11_worthAt_38 rfl ?_
      refine pg_iconst (pc := 40) (v := 1) dX11_worthAt_40 (by decide) ?_
      refine pg_icmp_ne (pc := 41) (tgt := 53) dX11_worthAt_41 (by decide) (fun c2 => ?_) (fun c2 => ?_)
      · skip
        refine pg_aload_n (pc := 53) (i := 0) (j := 1) (x := 207) dX11_worthAt_53 rfl rfl ?_
        refine gfX11_107 (pc := 54) rfl h0 dX11_worthAt_54 ?_
        refine pg_aload_n (pc := 57) (i := 0) (j := 1) (x := 207) dX11_worthAt_57 rfl rfl ?_
        refine gfX11_95 (pc := 58) rfl h0 dX11_worthAt_58 ?_
        refine pg_iload_n (pc := 61) (i := 3) (j := 3) (x := v3) dX11_worthAt_61 rfl rfl ?_
        refine pg_iald (pc := 62) h0.2.2.2.2.2.2.2.2.1 b0 dX11_worthAt_62 ?_
        refine pg_iald (pc := 63) h0.2.2.2.2.2.2.2.2.2.2.2.2.1 (b1 c0 c1 c2) dX11_worthAt_63 ?_
        refine pg_iast (pc := 64) h0.2.2.2.2.2.2.2.2.2.2.2.2.2.1 (b2 c0 c1 c2) dX11_worthAt_64 ?_
        refine pg_iinc (pc := 65) (i := 2) (j := 2) (x := v2) (v := v2 + 1) (ls' := [(2, .int (v2 + 1)), (4, .int (M.1 214 v3.toNatClampNeg)), (0, .ref 207), (3, .int v3)]) dX11_worthAt_65 rfl rfl (by decide) rfl ?_
        refine pg_goto (pc := 68) (tgt := 134) dX11_worthAt_68 (by decide) ?_
        refine pg_iinc (pc := 134) (i := 3) (j := 3) (x := v3) (v := v3 + 1) (ls' := [(3, .int (v3 + 1)), (2, .int (v2 + 1)), (4, .int (M.1 214 v3.toNatClampNeg)), (0, .ref 207)]) dX11_worthAt_134 rfl rfl (by decide) rfl ?_
        refine pg_goto (pc := 137) (tgt := 4) dX11_worthAt_137 (by decide) ?_
        refine pg_drop (ks := [3, 1, 0]) (ls' := [(0, .ref 207), (2, .int (v2 + 1)), (3, .int (v3 + 1))]) rfl ?_
        exact k1 c0 c1 c2
      · skip
        refine pg_aload_n (pc := 44) (i := 0) (j := 1) (x := 207) dX11_worthAt_44 rfl rfl ?_
        refine gfX11_95 (pc := 45) rfl h0 dX11_worthAt_45 ?_
        refine pg_iload_n (pc := 48) (i := 3) (j := 3) (x := v3) dX11_worthAt_48 rfl rfl ?_
        refine pg_iald (pc := 49) h0.2.2.2.2.2.2.2.2.1 b0 dX11_worthAt_49 ?_
        refine pg_goto (pc := 50) (tgt := 64) dX11_worthAt_50 (by decide) ?_
        refine pg_iast (pc := 64) h0.2.2.2.2.2.2.2.2.2.2.2.2.2.1 (b3 c0 c1 c2) dX11_worthAt_64 ?_
        refine pg_iinc (pc := 65) (i := 2) (j := 2) (x := v2) (v := v2 + 1) (ls' := [(2, .int (v2 + 1)), (4, .int (M.1 214 v3.toNatClampNeg)), (0, .ref 207), (3, .int v3)]) dX11_worthAt_65 rfl rfl (by decide) rfl ?_
        refine pg_goto (pc := 68) (tgt := 134) dX11_worthAt_68 (by decide) ?_
        refine pg_iinc (pc := 134) (i := 3) (j := 3) (x := v3) (v := v3 + 1) (ls' := [(3, .int (v3 + 1)), (2, .int (v2 + 1)), (4, .int (M.1 214 v3.toNatClampNeg)), (0, .ref 207)]) dX11_worthAt_134 rfl rfl (by decide) rfl ?_
        refine pg_goto (pc := 137) (tgt := 4) dX11_worthAt_137 (by decide) ?_
        refine pg_drop (ks := [3, 1, 0]) (ls' := [(0, .ref 207), (2, .int (v2 + 1)), (3, .int (v3 + 1))]) rfl ?_
        exact k2 c0 c1 c2
    · skip
      refine pg_iload (pc := 27) (i := 4) (j := 0) (x := (M.1 214 v3.toNatClampNeg)) dX11_worthAt_27 rfl ?_
      refine pg_iconst (pc := 29) (v := 2) dX11_worthAt_29 (by decide) ?_
      refine pg_icmp_ne (pc := 30) (tgt := 71) dX11_worthAt_30 (by decide) (fun c2 => ?_) (fun c2 => ?_)
      · skip
        refine pg_iload (pc := 71) (i := 4) (j := 0) (x := (M.1 214 v3.toNatClampNeg)) dX11_worthAt_71 rfl ?_
        refine pg_iconst (pc := 73) (v := 3) dX11_worthAt_73 (by decide) ?_
        refine pg_icmp_ne (pc := 74) (tgt := 104) dX11_worthAt_74 (by decide) (fun c3 => ?_) (fun c3 => ?_)
        · skip
          refine pg_iinc (pc := 104) (i := 2) (j := 2) (x := v2) (v := v2 + (-1)) (ls' := [(2, .int (v2 + (-1))), (4, .int (M.1 214 v3.toNatClampNeg)), (0, .ref 207), (3, .int v3)]) dX11_worthAt_104 rfl rfl (by decide) rfl ?_
          refine pg_aload_n (pc := 107) (i := 0) (j := 2) (x := 207) dX11_worthAt_107 rfl rfl ?_
          refine gfX11_110 (pc := 108) rfl h0 dX11_worthAt_108 ?_
          refine pg_iload_n (pc := 111) (i := 2) (j := 0) (x := (v2 + (-1))) dX11_worthAt_111 rfl rfl ?_
          refine pg_iconst (pc := 112) (v := 1) dX11_worthAt_112 (by decide) ?_
          refine pg_isub (pc := 113) dX11_worthAt_113 ?_
          refine pg_iload (pc := 114) (i := 4) (j := 1) (x := (M.1 214 v3.toNatClampNeg)) dX11_worthAt_114 rfl ?_
          refine pg_aload_n (pc := 116) (i := 0) (j := 2) (x := 207) dX11_worthAt_116 rfl rfl ?_
          refine gfX11_110 (pc := 117) rfl h0 dX11_worthAt_117 ?_
          refine pg_iload_n (pc := 120) (i := 2) (j := 0) (x := (v2 + (-1))) dX11_worthAt_120 rfl rfl ?_
          refine pg_iconst (pc := 121) (v := 1) dX11_worthAt_121 (by decide) ?_
          refine pg_isub (pc := 122) dX11_worthAt_122 ?_
          refine pg_iald (pc := 123) h0.2.2.2.2.2.2.2.2.2.2.2.2.2.1 (b4 c0 c1 c2 c3) dX11_worthAt_123 ?_
          refine pg_aload_n (pc := 124) (i := 0) (j := 2) (x := 207) dX11_worthAt_124 rfl rfl ?_
          refine gfX11_110 (pc := 125) rfl h0 dX11_worthAt_125 ?_
          refine pg_iload_n (pc := 128) (i := 2) (j := 0) (x := (v2 + (-1))) dX11_worthAt_128 rfl rfl ?_
          refine pg_iald (pc := 129) h0.2.2.2.2.2.2.2.2.2.2.2.2.2.1 (b5 c0 c1 c2 c3) dX11_worthAt_129 ?_
          refine pg_callS (pc := 130) (As := [.int (M.1 214 v3.toNatClampNeg), .int (M.1 220 ((v2 + (-1)) - 1).toNatClampNeg), .int (M.1 220 (v2 + (-1)).toNatClampNeg)]) (st := [.int ((v2 + (-1)) - 1), .ref 220]) okX11_both lkX11_279 rfl (Nat.le_refl _) (Nat.le_of_ble_eq_true rfl) (e0 c0 c1 c2 c3) dX11_worthAt_130 (fun r1 M1 w1 => ?_)
          obtain ⟨x1, rfl, w1⟩ := w1
          refine pg_iast (pc := 133) h0.2.2.2.2.2.2.2.2.2.2.2.2.2.1 (b4 c0 c1 c2 c3) dX11_worthAt_133 ?_
          refine pg_iinc (pc := 134) (i := 3) (j := 3) (x := v3) (v := v3 + 1) (ls' := [(3, .int (v3 + 1)), (2, .int (v2 + (-1))), (4, .int (M.1 214 v3.toNatClampNeg)), (0, .ref 207)]) dX11_worthAt_134 rfl rfl (by decide) rfl ?_
          refine pg_goto (pc := 137) (tgt := 4) dX11_worthAt_137 (by decide) ?_
          refine pg_drop (ks := [3, 1, 0]) (ls' := [(0, .ref 207), (2, .int (v2 + (-1))), (3, .int (v3 + 1))]) rfl ?_
          exact k3 c0 c1 c2 c3 x1 M1 w1
        · skip
          refine pg_aload_n (pc := 77) (i := 0) (j := 1) (x := 207) dX11_worthAt_77 rfl rfl ?_
          refine gfX11_110 (pc := 78) rfl h0 dX11_worthAt_78 ?_
          refine pg_iload_n (pc := 81) (i := 2) (j := 2) (x := v2) dX11_worthAt_81 rfl rfl ?_
          refine pg_iconst (pc := 82) (v := 1) dX11_worthAt_82 (by decide) ?_
          refine pg_isub (pc := 83) dX11_worthAt_83 ?_
          refine pg_aload_n (pc := 84) (i := 0) (j := 1) (x := 207) dX11_worthAt_84 rfl rfl ?_
          refine gfX11_110 (pc := 85) rfl h0 dX11_worthAt_85 ?_
          refine pg_iload_n (pc := 88) (i := 2) (j := 2) (x := v2) dX11_worthAt_88 rfl rfl ?_
          refine pg_iconst (pc := 89) (v := 1) dX11_worthAt_89 (by decide) ?_
          refine pg_isub (pc := 90) dX11_worthAt_90 ?_
          refine pg_iald (pc := 91) h0.2.2.2.2.2.2.2.2.2.2.2.2.2.1 (b6 c0 c1 c2 c3) dX11_worthAt_91 ?_
          refine pg_if_ne (pc := 92) (tgt := 99) dX11_worthAt_92 (by decide) (fun c4 => ?_) (fun c4 => ?_)
          · skip
            refine pg_iconst (pc := 99) (v := 0) dX11_worthAt_99 (by decide) ?_
            refine pg_iast (pc := 100) h0.2.2.2.2.2.2.2.2.2.2.2.2.2.1 (b6 c0 c1 c2 c3) dX11_worthAt_100 ?_
            refine pg_goto (pc := 101) (tgt := 134) dX11_worthAt_101 (by decide) ?_
            refine pg_iinc (pc := 134) (i := 3) (j := 3) (x := v3) (v := v3 + 1) (ls' := [(3, .int (v3 + 1)), (4, .int (M.1 214 v3.toNatClampNeg)), (0, .ref 207), (2, .int v2)]) dX11_worthAt_134 rfl rfl (by decide) rfl ?_
            refine pg_goto (pc := 137) (tgt := 4) dX11_worthAt_137 (by decide) ?_
            refine pg_drop (ks := [2, 3, 0]) (ls' := [(0, .ref 207), (2, .int v2), (3, .int (v3 + 1))]) rfl ?_
            exact k4 c0 c1 c2 c3 c4
          · skip
            refine pg_iconst (pc := 95) (v := 1) dX11_worthAt_95 (by decide) ?_
            refine pg_goto (pc := 96) (tgt := 100) dX11_worthAt_96 (by decide) ?_
            refine pg_iast (pc := 100) h0.2.2.2.2.2.2.2.2.2.2.2.2.2.1 (b6 c0 c1 c2 c3) dX11_worthAt_100 ?_
            refine pg_goto (pc := 101) (tgt := 134) dX11_worthAt_101 (by decide) ?_
            refine pg_iinc (pc := 134) (i := 3) (j := 3) (x := v3) (v := v3 + 1) (ls' := [(3, .int (v3 + 1)), (4, .int (M.1 214 v3.toNatClampNeg)), (0, .ref 207), (2, .int v2)]) dX11_worthAt_134 rfl rfl (by decide) rfl ?_
            refine pg_goto (pc := 137) (tgt := 4) dX11_worthAt_137 (by decide) ?_
            refine pg_drop (ks := [2, 3, 0]) (ls' := [(0, .ref 207), (2, .int v2), (3, .int (v3 + 1))]) rfl ?_
            exact k5 c0 c1 c2 c3 c4
      · skip
        refine pg_aload_n (pc := 33) (i := 0) (j := 1) (x := 207) dX11_worthAt_33 rfl rfl ?_
        refine gfX11_110 (pc := 34) rfl h0 dX11_worthAt_34 ?_
        refine pg_iload_n (pc := 37) (i := 2) (j := 2) (x := v2) dX11_worthAt_37 rfl rfl ?_
        refine pg_iload (pc := 38) (i := 4) (j := 0) (x := (M.1 214 v3.toNatClampNeg)) dX11_worthAt_38 rfl ?_
        refine pg_iconst (pc := 40) (v := 1) dX11_worthAt_40 (by decide) ?_
        refine pg_icmp_ne (pc := 41) (tgt := 53) dX11_worthAt_41 (by decide) (fun c3 => ?_) (fun c3 => ?_)
        · skip
          refine pg_aload_n (pc := 53) (i := 0) (j := 1) (x := 207) dX11_worthAt_53 rfl rfl ?_
          refine gfX11_107 (pc := 54) rfl h0 dX11_worthAt_54 ?_
          refine pg_aload_n (pc := 57) (i := 0) (j := 1) (x := 207) dX11_worthAt_57 rfl rfl ?_
          refine gfX11_95 (pc := 58) rfl h0 dX11_worthAt_58 ?_
          refine pg_iload_n (pc := 61) (i := 3) (j := 3) (x := v3) dX11_worthAt_61 rfl rfl ?_
          refine pg_iald (pc := 62) h0.2.2.2.2.2.2.2.2.1 b0 dX11_worthAt_62 ?_
          refine pg_iald (pc := 63) h0.2.2.2.2.2.2.2.2.2.2.2.2.1 (b7 c0 c1 c2 c3) dX11_worthAt_63 ?_
          refine pg_iast (pc := 64) h0.2.2.2.2.2.2.2.2.2.2.2.2.2.1 (b8 c0 c1 c2 c3) dX11_worthAt_64 ?_
          refine pg_iinc (pc := 65) (i := 2) (j := 2) (x := v2) (v := v2 + 1) (ls' := [(2, .int (v2 + 1)), (4, .int (M.1 214 v3.toNatClampNeg)), (0, .ref 207), (3, .int v3)]) dX11_worthAt_65 rfl rfl (by decide) rfl ?_
          refine pg_goto (pc := 68) (tgt := 134) dX11_worthAt_68 (by decide) ?_
          refine pg_iinc (pc := 134) (i := 3) (j := 3) (x := v3) (v := v3 + 1) (ls' := [(3, .int (v3 + 1)), (2, .int (v2 + 1)), (4, .int (M.1 214 v3.toNatClampNeg)), (0, .ref 207)]) dX11_worthAt_134 rfl rfl (by decide) rfl ?_
          refine pg_goto (pc := 137) (tgt := 4) dX11_worthAt_137 (by decide) ?_
          refine pg_drop (ks := [3, 1, 0]) (ls' := [(0, .ref 207), (2, .int (v2 + 1)), (3, .int (v3 + 1))]) rfl ?_
          exact k6 c0 c1 c2 c3
        · skip
          refine pg_aload_n (pc := 44) (i := 0) (j := 1) (x := 207) dX11_worthAt_44 rfl rfl ?_
          refine gfX11_95 (pc := 45) rfl h0 dX11_worthAt_45 ?_
          refine pg_iload_n (pc := 48) (i := 3) (j := 3) (x := v3) dX11_worthAt_48 rfl rfl ?_
          refine pg_iald (pc := 49) h0.2.2.2.2.2.2.2.2.1 b0 dX11_worthAt_49 ?_
          refine pg_goto (pc := 50) (tgt := 64) dX11_worthAt_50 (by decide) ?_
          refine pg_iast (pc := 64) h0.2.2.2.2.2.2.2.2.2.2.2.2.2.1 (b9 c0 c1 c2 c3) dX11_worthAt_64 ?_
          refine pg_iinc (pc := 65) (i := 2) (j := 2) (x := v2) (v := v2 + 1) (ls' := [(2, .int (v2 + 1)), (4, .int (M.1 214 v3.toNatClampNeg)), (0, .ref 207), (3, .int v3)]) dX11_worthAt_65 rfl rfl (by decide) rfl ?_
          refine pg_goto (pc := 68) (tgt := 134) dX11_worthAt_68 (by decide) ?_
          refine pg_iinc (pc := 134) (i := 3) (j := 3) (x := v3) (v := v3 + 1) (ls' := [(3, .int (v3 + 1)), (2, .int (v2 + 1)), (4, .int (M.1 214 v3.toNatClampNeg)), (0, .ref 207)]) dX11_worthAt_134 rfl rfl (by decide) rfl ?_
          refine pg_goto (pc := 137) (tgt := 4) dX11_worthAt_137 (by decide) ?_
          refine pg_drop (ks := [3, 1, 0]) (ls' := [(0, .ref 207), (2, .int (v2 + 1)), (3, .int (v3 + 1))]) rfl ?_
          exact k7 c0 c1 c2 c3
theorem oX11_worthAt {d : Nat} {v1 : Int32} (h : pg_At S Λ YX11_worthAt d 0 [(0, .ref 207), (1, .int v1)] [] M P) : pg_Ev S Λ YX11_worthAt d [.ref 207, .int v1] M P := pg_Ev.of (by decide) (by first | decide | exact Nat.le_of_ble_eq_true rfl) h
theorem sX11_both_0 {v0 : Int32} {v1 : Int32} {v2 : Int32} 
    (k0 : (v0 = 4) → P (some (.int (v1 + v2))) M)
    (k1 : (¬ v0 = 4) → (v0 = 5) → P (some (.int (v1 - v2))) M)
    (k2 : (¬ v0 = 4) → (¬ v0 = 5) → (v0 = 6) → P (some (.int (v1 * v2))) M)
    (k3 : (¬ v0 = 4) → (¬ v0 = 5) → (¬ v0 = 6) → (v0 = 7) → (v2 ≤ v1) → P (some (.int 0)) M)
    (k4 : (¬ v0 = 4) → (¬ v0 = 5) → (¬ v0 = 6) → (v0 = 7) → (¬ v2 ≤ v1) → P (some (.int 1)) M)
    (k5 : (¬ v0 = 4) → (¬ v0 = 5) → (¬ v0 = 6) → (¬ v0 = 7) → (v0 = 8) → (¬ v1 = v2) → P (some (.int 0)) M)
    (k6 : (¬ v0 = 4) → (¬ v0 = 5) → (¬ v0 = 6) → (¬ v0 = 7) → (v0 = 8) → (v1 = v2) → P (some (.int 1)) M)
    (k7 : (¬ v0 = 4) → (¬ v0 = 5) → (¬ v0 = 6) → (¬ v0 = 7) → (¬ v0 = 8) → (v0 = 9) → (v1 = 0) → P (some (.int 0)) M)
    (k8 : (¬ v0 = 4) → (¬ v0 = 5) → (¬ v0 = 6) → (¬ v0 = 7) → (¬ v0 = 8) → (v0 = 9) → (¬ v1 = 0) → (v2 = 0) → P (some (.int 0)) M)
    (k9 : (¬ v0 = 4) → (¬ v0 = 5) → (¬ v0 = 6) → (¬ v0 = 7) → (¬ v0 = 8) → (v0 = 9) → (¬ v1 = 0) → (¬ v2 = 0) → P (some (.int 1)) M)
    (k10 : (¬ v0 = 4) → (¬ v0 = 5) → (¬ v0 = 6) → (¬ v0 = 7) → (¬ v0 = 8) → (¬ v0 = 9) → (¬ v1 = 0) → P (some (.int 1)) M)
    (k11 : (¬ v0 = 4) → (¬ v0 = 5) → (¬ v0 = 6) → (¬ v0 = 7) → (¬ v0 = 8) → (¬ v0 = 9) → (v1 = 0) → (v2 = 0) → P (some (.int 0)) M)
    (k12 : (¬ v0 = 4) → (¬ v0 = 5) → (¬ v0 = 6) → (¬ v0 = 7) → (¬ v0 = 8) → (¬ v0 = 9) → (v1 = 0) → (¬ v2 = 0) → P (some (.int 1)) M) :
    pg_At S Λ YX11_both d 0 [(0, .int v0), (1, .int v1), (2, .int v2)] [] M P := by
  refine pg_iload_n (pc := 0) (i := 0) (j := 0) (x := v0) dX11_both_0 rfl rfl ?_
  by_cases c0 : v0 = 4
  · refine pg_tableIn (pc := 1) (tgt := 40) dX11_both_1 (by rw [c0]; decide) (by rw [c0]; decide) (by rw [c0]; rfl) (by decide) ?_
    refine pg_iload_n (pc := 40) (i := 1) (j := 1) (x := v1) dX11_both_40 rfl rfl ?_
    refine pg_iload_n (pc := 41) (i := 2) (j := 2) (x := v2) dX11_both_41 rfl rfl ?_
    refine pg_iadd (pc := 42) dX11_both_42 ?_
    exact pg_iret (pc := 43) rfl dX11_both_43 (k0 c0)
  by_cases c1 : v0 = 5
  · refine pg_tableIn (pc := 1) (tgt := 44) dX11_both_1 (by rw [c1]; decide) (by rw [c1]; decide) (by rw [c1]; rfl) (by decide) ?_
    refine pg_iload_n (pc := 44) (i := 1) (j := 1) (x := v1) dX11_both_44 rfl rfl ?_
    refine pg_iload_n (pc := 45) (i := 2) (j := 2) (x := v2) dX11_both_45 rfl rfl ?_
    refine pg_isub (pc := 46) dX11_both_46 ?_
    exact pg_iret (pc := 47) rfl dX11_both_47 (k1 c0 c1)
  by_cases c2 : v0 = 6
  · refine pg_tableIn (pc := 1) (tgt := 48) dX11_both_1 (by rw [c2]; decide) (by rw [c2]; decide) (by rw [c2]; rfl) (by decide) ?_
    refine pg_iload_n (pc := 48) (i := 1) (j := 1) (x := v1) dX11_both_48 rfl rfl ?_
    refine pg_iload_n (pc := 49) (i := 2) (j := 2) (x := v2) dX11_both_49 rfl rfl ?_
    refine pg_imul (pc := 50) dX11_both_50 ?_
    exact pg_iret (pc := 51) rfl dX11_both_51 (k2 c0 c1 c2)
  by_cases c3 : v0 = 7
  · refine pg_tableIn (pc := 1) (tgt := 52) dX11_both_1 (by rw [c3]; decide) (by rw [c3]; decide) (by rw [c3]; rfl) (by decide) ?_
    refine pg_iload_n (pc := 52) (i := 1) (j := 1) (x := v1) dX11_both_52 rfl rfl ?_
    refine pg_iload_n (pc := 53) (i := 2) (j := 2) (x := v2) dX11_both_53 rfl rfl ?_
    refine pg_icmp_ge (pc := 54) (tgt := 61) dX11_both_54 (by decide) (fun c4 => ?_) (fun c4 => ?_)
    · skip
      refine pg_iconst (pc := 61) (v := 0) dX11_both_61 (by decide) ?_
      exact pg_iret (pc := 62) rfl dX11_both_62 (k3 c0 c1 c2 c3 c4)
    · skip
      refine pg_iconst (pc := 57) (v := 1) dX11_both_57 (by decide) ?_
      refine pg_goto (pc := 58) (tgt := 62) dX11_both_58 (by decide) ?_
      exact pg_iret (pc := 62) rfl dX11_both_62 (k4 c0 c1 c2 c3 c4)
  by_cases c4 : v0 = 8
  · refine pg_tableIn (pc := 1) (tgt := 63) dX11_both_1 (by rw [c4]; decide) (by rw [c4]; decide) (by rw [c4]; rfl) (by decide) ?_
    refine pg_iload_n (pc := 63) (i := 1) (j := 1) (x := v1) dX11_both_63 rfl rfl ?_
    refine pg_iload_n (pc := 64) (i := 2) (j := 2) (x := v2) dX11_both_64 rfl rfl ?_
    refine pg_icmp_ne (pc := 65) (tgt := 72) dX11_both_65 (by decide) (fun c5 => ?_) (fun c5 => ?_)
    · skip
      refine pg_iconst (pc := 72) (v := 0) dX11_both_72 (by decide) ?_
      exact pg_iret (pc := 73) rfl dX11_both_73 (k5 c0 c1 c2 c3 c4 c5)
    · skip
      refine pg_iconst (pc := 68) (v := 1) dX11_both_68 (by decide) ?_
      refine pg_goto (pc := 69) (tgt := 73) dX11_both_69 (by decide) ?_
      exact pg_iret (pc := 73) rfl dX11_both_73 (k6 c0 c1 c2 c3 c4 c5)
  by_cases c5 : v0 = 9
  · refine pg_tableIn (pc := 1) (tgt := 74) dX11_both_1 (by rw [c5]; decide) (by rw [c5]; decide) (by rw [c5]; rfl) (by decide) ?_
    refine pg_iload_n (pc := 74) (i := 1) (j := 1) (x := v1) dX11_both_74 rfl rfl ?_
    refine pg_if_eq (pc := 75) (tgt := 86) dX11_both_75 (by decide) (fun c6 => ?_) (fun c6 => ?_)
    · skip
      refine pg_iconst (pc := 86) (v := 0) dX11_both_86 (by decide) ?_
      exact pg_iret (pc := 87) rfl dX11_both_87 (k7 c0 c1 c2 c3 c4 c5 c6)
    · skip
      refine pg_iload_n (pc := 78) (i := 2) (j := 2) (x := v2) dX11_both_78 rfl rfl ?_
      refine pg_if_eq (pc := 79) (tgt := 86) dX11_both_79 (by decide) (fun c7 => ?_) (fun c7 => ?_)
      · skip
        refine pg_iconst (pc := 86) (v := 0) dX11_both_86 (by decide) ?_
        exact pg_iret (pc := 87) rfl dX11_both_87 (k8 c0 c1 c2 c3 c4 c5 c6 c7)
      · skip
        refine pg_iconst (pc := 82) (v := 1) dX11_both_82 (by decide) ?_
        refine pg_goto (pc := 83) (tgt := 87) dX11_both_83 (by decide) ?_
        exact pg_iret (pc := 87) rfl dX11_both_87 (k9 c0 c1 c2 c3 c4 c5 c6 c7)
  have g0 : v0.toInt ≠ 4 := pg_ne c0 (by decide)
  have g1 : v0.toInt ≠ 5 := pg_ne c1 (by decide)
  have g2 : v0.toInt ≠ 6 := pg_ne c2 (by decide)
  have g3 : v0.toInt ≠ 7 := pg_ne c3 (by decide)
  have g4 : v0.toInt ≠ 8 := pg_ne c4 (by decide)
  have g5 : v0.toInt ≠ 9 := pg_ne c5 (by decide)
  refine pg_tableOut (pc := 1) (tgt := 88) dX11_both_1 (by omega) (by decide) ?_
  refine pg_iload_n (pc := 88) (i := 1) (j := 1) (x := v1) dX11_both_88 rfl rfl ?_
  refine pg_if_ne (pc := 89) (tgt := 96) dX11_both_89 (by decide) (fun c6 => ?_) (fun c6 => ?_)
  · skip
    refine pg_iconst (pc := 96) (v := 1) dX11_both_96 (by decide) ?_
    refine pg_goto (pc := 97) (tgt := 101) dX11_both_97 (by decide) ?_
    exact pg_iret (pc := 101) rfl dX11_both_101 (k10 c0 c1 c2 c3 c4 c5 c6)
  · skip
    refine pg_iload_n (pc := 92) (i := 2) (j := 2) (x := v2) dX11_both_92 rfl rfl ?_
    refine pg_if_eq (pc := 93) (tgt := 100) dX11_both_93 (by decide) (fun c7 => ?_) (fun c7 => ?_)
    · skip
      refine pg_iconst (pc := 100) (v := 0) dX11_both_100 (by decide) ?_
      exact pg_iret (pc := 101) rfl dX11_both_101 (k11 c0 c1 c2 c3 c4 c5 c6 c7)
    · skip
      refine pg_iconst (pc := 96) (v := 1) dX11_both_96 (by decide) ?_
      refine pg_goto (pc := 97) (tgt := 101) dX11_both_97 (by decide) ?_
      exact pg_iret (pc := 101) rfl dX11_both_101 (k12 c0 c1 c2 c3 c4 c5 c6 c7)
theorem oX11_both {d : Nat} {v0 : Int32} {v1 : Int32} {v2 : Int32} (h : pg_At S Λ YX11_both d 0 [(0, .int v0), (1, .int v1), (2, .int v2)] [] M P) : pg_Ev S Λ YX11_both d [.int v0, .int v1, .int v2] M P := pg_Ev.of (by decide) (by first | decide | exact Nat.le_of_ble_eq_true rfl) h
theorem sX11_copies_0 {v1 : Int32} {v2 : Int32} {v3 : Int32} 
    (k0 : pg_At S Λ YX11_copies d 3 [(0, .ref 207), (1, .int v1), (2, .int v2), (3, .int v3), (4, .int 0)] [] M P) :
    pg_At S Λ YX11_copies d 0 [(0, .ref 207), (1, .int v1), (2, .int v2), (3, .int v3)] [] M P := by
  refine pg_iconst (pc := 0) (v := 0) dX11_copies_0 (by decide) ?_
  refine pg_istore (pc := 1) (i := 4) (ls' := [(4, .int 0), (0, .ref 207), (1, .int v1), (2, .int v2), (3, .int v3)]) dX11_copies_1 (by decide) rfl ?_
  refine pg_drop (ks := [1, 2, 3, 4, 0]) (ls' := [(0, .ref 207), (1, .int v1), (2, .int v2), (3, .int v3), (4, .int 0)]) rfl ?_
  exact k0
theorem sX11_copies_3 {v1 : Int32} {v2 : Int32} {v3 : Int32} {v4 : Int32} 
    (h0 : pg_isX11 Λ)
    (k0 : (v3 ≤ v4) → P none M)
    (b0 : (¬ v3 ≤ v4) → vp_in (v1 + v4) 1242)
    (b1 : (¬ v3 ≤ v4) → vp_in (v2 + v4) 1242)
    (k1 : (¬ v3 ≤ v4) → pg_At S Λ YX11_copies d 3 [(0, .ref 207), (1, .int v1), (2, .int v2), (3, .int v3), (4, .int (v4 + 1))] [] (pg_si M 221 (v2 + v4).toNatClampNeg (M.1 221 (v1 + v4).toNatClampNeg)) P) :
    pg_At S Λ YX11_copies d 3 [(0, .ref 207), (1, .int v1), (2, .int v2), (3, .int v3), (4, .int v4)] [] M P := by
  refine pg_iload (pc := 3) (i := 4) (j := 4) (x := v4) dX11_copies_3 rfl ?_
  refine pg_iload_n (pc := 5) (i := 3) (j := 3) (x := v3) dX11_copies_5 rfl rfl ?_
  refine pg_icmp_ge (pc := 6) (tgt := 33) dX11_copies_6 (by decide) (fun c0 => ?_) (fun c0 => ?_)
  · skip
    exact pg_vret (pc := 33) rfl dX11_copies_33 (k0 c0)
  · skip
    refine pg_aload_n (pc := 9) (i := 0) (j := 0) (x := 207) dX11_copies_9 rfl rfl ?_
    refine gfX11_113 (pc := 10) rfl h0 dX11_copies_10 ?_
    refine pg_iload_n (pc := 13) (i := 2) (j := 2) (x := v2) dX11_copies_13 rfl rfl ?_
    refine pg_iload (pc := 14) (i := 4) (j := 4) (x := v4) dX11_copies_14 rfl ?_
    refine pg_iadd (pc := 16) dX11_copies_16 ?_
    refine pg_aload_n (pc := 17) (i := 0) (j := 0) (x := 207) dX11_copies_17 rfl rfl ?_
    refine gfX11_113 (pc := 18) rfl h0 dX11_copies_18 ?_
    refine pg_iload_n (pc := 21) (i := 1) (j := 1) (x := v1) dX11_copies_21 rfl rfl ?_
    refine pg_iload (pc := 22) (i := 4) (j := 4) (x := v4) dX11_copies_22 rfl ?_
    refine pg_iadd (pc := 24) dX11_copies_24 ?_
    refine pg_iald (pc := 25) h0.2.2.2.2.2.2.2.2.2.2.2.2.2.2.1 (b0 c0) dX11_copies_25 ?_
    refine pg_iast (pc := 26) h0.2.2.2.2.2.2.2.2.2.2.2.2.2.2.1 (b1 c0) dX11_copies_26 ?_
    refine pg_iinc (pc := 27) (i := 4) (j := 4) (x := v4) (v := v4 + 1) (ls' := [(4, .int (v4 + 1)), (0, .ref 207), (1, .int v1), (2, .int v2), (3, .int v3)]) dX11_copies_27 rfl rfl (by decide) rfl ?_
    refine pg_goto (pc := 30) (tgt := 3) dX11_copies_30 (by decide) ?_
    refine pg_drop (ks := [1, 2, 3, 4, 0]) (ls' := [(0, .ref 207), (1, .int v1), (2, .int v2), (3, .int v3), (4, .int (v4 + 1))]) rfl ?_
    exact k1 c0
theorem oX11_copies {d : Nat} {v1 : Int32} {v2 : Int32} {v3 : Int32} (h : pg_At S Λ YX11_copies d 0 [(0, .ref 207), (1, .int v1), (2, .int v2), (3, .int v3)] [] M P) : pg_Ev S Λ YX11_copies d [.ref 207, .int v1, .int v2, .int v3] M P := pg_Ev.of (by decide) (by first | decide | exact Nat.le_of_ble_eq_true rfl) h
theorem sX11_starts_0 {v1 : Int32} 
    (k0 : pg_At S Λ YX11_starts d 2 [(0, .ref 207), (1, .int v1), (2, .int 0)] [] M P) :
    pg_At S Λ YX11_starts d 0 [(0, .ref 207), (1, .int v1)] [] M P := by
  refine pg_iconst (pc := 0) (v := 0) dX11_starts_0 (by decide) ?_
  refine pg_istore_n (pc := 1) (i := 2) (ls' := [(2, .int 0), (0, .ref 207), (1, .int v1)]) dX11_starts_1 rfl (by decide) rfl ?_
  refine pg_drop (ks := [1, 2, 0]) (ls' := [(0, .ref 207), (1, .int v1), (2, .int 0)]) rfl ?_
  exact k0
theorem sX11_starts_2 {v1 : Int32} {v2 : Int32} 
    (h0 : pg_isX11 Λ)
    (b0 : (28 ≤ v2) → vp_in (v1 + 1) 1242)
    (k0 : (28 ≤ v2) → pg_At S Λ YX11_starts d 39 [(0, .ref 207), (1, .int v1), (2, .int 0)] [] (pg_si M 221 (v1 + 1).toNatClampNeg (M.1 213 (1 : Int32).toNatClampNeg)) P)
    (b1 : (¬ 28 ≤ v2) → vp_in (v1 + v2) 1242)
    (k1 : (¬ 28 ≤ v2) → pg_At S Λ YX11_starts d 2 [(0, .ref 207), (1, .int v1), (2, .int (v2 + 1))] [] (pg_si M 221 (v1 + v2).toNatClampNeg 0) P) :
    pg_At S Λ YX11_starts d 2 [(0, .ref 207), (1, .int v1), (2, .int v2)] [] M P := by
  refine pg_iload_n (pc := 2) (i := 2) (j := 2) (x := v2) dX11_starts_2 rfl rfl ?_
  refine pg_bipush (pc := 3) (v := 28) dX11_starts_3 (by decide) ?_
  refine pg_icmp_ge (pc := 5) (tgt := 23) dX11_starts_5 (by decide) (fun c0 => ?_) (fun c0 => ?_)
  · skip
    refine pg_aload_n (pc := 23) (i := 0) (j := 0) (x := 207) dX11_starts_23 rfl rfl ?_
    refine gfX11_113 (pc := 24) rfl h0 dX11_starts_24 ?_
    refine pg_iload_n (pc := 27) (i := 1) (j := 1) (x := v1) dX11_starts_27 rfl rfl ?_
    refine pg_iconst (pc := 28) (v := 1) dX11_starts_28 (by decide) ?_
    refine pg_iadd (pc := 29) dX11_starts_29 ?_
    refine pg_aload_n (pc := 30) (i := 0) (j := 0) (x := 207) dX11_starts_30 rfl rfl ?_
    refine gfX11_89 (pc := 31) rfl h0 dX11_starts_31 ?_
    refine pg_iconst (pc := 34) (v := 1) dX11_starts_34 (by decide) ?_
    refine pg_iald (pc := 35) h0.2.2.2.2.2.2.1 (by unfold vp_in; decide) dX11_starts_35 ?_
    refine pg_iast (pc := 36) h0.2.2.2.2.2.2.2.2.2.2.2.2.2.2.1 (b0 c0) dX11_starts_36 ?_
    refine pg_iconst (pc := 37) (v := 0) dX11_starts_37 (by decide) ?_
    refine pg_istore_n (pc := 38) (i := 2) (ls' := [(2, .int 0), (0, .ref 207), (1, .int v1)]) dX11_starts_38 rfl (by decide) rfl ?_
    refine pg_drop (ks := [1, 2, 0]) (ls' := [(0, .ref 207), (1, .int v1), (2, .int 0)]) rfl ?_
    exact k0 c0
  · skip
    refine pg_aload_n (pc := 8) (i := 0) (j := 0) (x := 207) dX11_starts_8 rfl rfl ?_
    refine gfX11_113 (pc := 9) rfl h0 dX11_starts_9 ?_
    refine pg_iload_n (pc := 12) (i := 1) (j := 1) (x := v1) dX11_starts_12 rfl rfl ?_
    refine pg_iload_n (pc := 13) (i := 2) (j := 2) (x := v2) dX11_starts_13 rfl rfl ?_
    refine pg_iadd (pc := 14) dX11_starts_14 ?_
    refine pg_iconst (pc := 15) (v := 0) dX11_starts_15 (by decide) ?_
    refine pg_iast (pc := 16) h0.2.2.2.2.2.2.2.2.2.2.2.2.2.2.1 (b1 c0) dX11_starts_16 ?_
    refine pg_iinc (pc := 17) (i := 2) (j := 2) (x := v2) (v := v2 + 1) (ls' := [(2, .int (v2 + 1)), (0, .ref 207), (1, .int v1)]) dX11_starts_17 rfl rfl (by decide) rfl ?_
    refine pg_goto (pc := 20) (tgt := 2) dX11_starts_20 (by decide) ?_
    refine pg_drop (ks := [1, 2, 0]) (ls' := [(0, .ref 207), (1, .int v1), (2, .int (v2 + 1))]) rfl ?_
    exact k1 c0
theorem sX11_starts_39 {v1 : Int32} {v2 : Int32} 
    (h0 : pg_isX11 Λ)
    (k0 : ((M.1 213 (1 : Int32).toNatClampNeg) ≤ v2) → P none M)
    (b0 : (¬ (M.1 213 (1 : Int32).toNatClampNeg) ≤ v2) → vp_in (68 + v2) 200)
    (b1 : (¬ (M.1 213 (1 : Int32).toNatClampNeg) ≤ v2) → vp_in ((v1 + 20) + v2) 1242)
    (k1 : (¬ (M.1 213 (1 : Int32).toNatClampNeg) ≤ v2) → pg_At S Λ YX11_starts d 39 [(0, .ref 207), (1, .int v1), (2, .int (v2 + 1))] [] (pg_si M 221 ((v1 + 20) + v2).toNatClampNeg (M.1 213 (68 + v2).toNatClampNeg)) P) :
    pg_At S Λ YX11_starts d 39 [(0, .ref 207), (1, .int v1), (2, .int v2)] [] M P := by
  refine pg_iload_n (pc := 39) (i := 2) (j := 2) (x := v2) dX11_starts_39 rfl rfl ?_
  refine pg_aload_n (pc := 40) (i := 0) (j := 0) (x := 207) dX11_starts_40 rfl rfl ?_
  refine gfX11_89 (pc := 41) rfl h0 dX11_starts_41 ?_
  refine pg_iconst (pc := 44) (v := 1) dX11_starts_44 (by decide) ?_
  refine pg_iald (pc := 45) h0.2.2.2.2.2.2.1 (by unfold vp_in; decide) dX11_starts_45 ?_
  refine pg_icmp_ge (pc := 46) (tgt := 75) dX11_starts_46 (by decide) (fun c0 => ?_) (fun c0 => ?_)
  · skip
    exact pg_vret (pc := 75) rfl dX11_starts_75 (k0 c0)
  · skip
    refine pg_aload_n (pc := 49) (i := 0) (j := 0) (x := 207) dX11_starts_49 rfl rfl ?_
    refine gfX11_113 (pc := 50) rfl h0 dX11_starts_50 ?_
    refine pg_iload_n (pc := 53) (i := 1) (j := 1) (x := v1) dX11_starts_53 rfl rfl ?_
    refine pg_bipush (pc := 54) (v := 20) dX11_starts_54 (by decide) ?_
    refine pg_iadd (pc := 56) dX11_starts_56 ?_
    refine pg_iload_n (pc := 57) (i := 2) (j := 2) (x := v2) dX11_starts_57 rfl rfl ?_
    refine pg_iadd (pc := 58) dX11_starts_58 ?_
    refine pg_aload_n (pc := 59) (i := 0) (j := 0) (x := 207) dX11_starts_59 rfl rfl ?_
    refine gfX11_89 (pc := 60) rfl h0 dX11_starts_60 ?_
    refine pg_bipush (pc := 63) (v := 68) dX11_starts_63 (by decide) ?_
    refine pg_iload_n (pc := 65) (i := 2) (j := 2) (x := v2) dX11_starts_65 rfl rfl ?_
    refine pg_iadd (pc := 66) dX11_starts_66 ?_
    refine pg_iald (pc := 67) h0.2.2.2.2.2.2.1 (b0 c0) dX11_starts_67 ?_
    refine pg_iast (pc := 68) h0.2.2.2.2.2.2.2.2.2.2.2.2.2.2.1 (b1 c0) dX11_starts_68 ?_
    refine pg_iinc (pc := 69) (i := 2) (j := 2) (x := v2) (v := v2 + 1) (ls' := [(2, .int (v2 + 1)), (0, .ref 207), (1, .int v1)]) dX11_starts_69 rfl rfl (by decide) rfl ?_
    refine pg_goto (pc := 72) (tgt := 39) dX11_starts_72 (by decide) ?_
    refine pg_drop (ks := [1, 2, 0]) (ls' := [(0, .ref 207), (1, .int v1), (2, .int (v2 + 1))]) rfl ?_
    exact k1 c0
theorem oX11_starts {d : Nat} {v1 : Int32} (h : pg_At S Λ YX11_starts d 0 [(0, .ref 207), (1, .int v1)] [] M P) : pg_Ev S Λ YX11_starts d [.ref 207, .int v1] M P := pg_Ev.of (by decide) (by first | decide | exact Nat.le_of_ble_eq_true rfl) h
theorem sX11_begins_0  {Q0 : pg_M → Prop}
    (h0 : pg_isX11 Λ)
    (e0 : pg_Ev S Λ YX11_starts d [.ref 207, .int 0] M (fun r M' => r = none ∧ Q0 M'))
    (k0 : ∀ M1, Q0 M1 → pg_At S Λ YX11_begins (d + 1) 27 [(0, .ref 207), (1, .int 0)] [] (pg_si (pg_si (pg_si M1 221 (28 : Int32).toNatClampNeg 0) 218 (0 : Int32).toNatClampNeg 0) 207 23 0) P) :
    pg_At S Λ YX11_begins (d + 1) 0 [(0, .ref 207)] [] M P := by
  refine pg_aload_n (pc := 0) (i := 0) (j := 0) (x := 207) dX11_begins_0 rfl rfl ?_
  refine pg_iconst (pc := 1) (v := 0) dX11_begins_1 (by decide) ?_
  refine pg_callV (pc := 2) (As := [.int 0]) (st := []) okX11_starts lkX11_282 rfl h0.1 rfl (Nat.le_refl _) (Nat.le_of_ble_eq_true rfl) e0 dX11_begins_2 (fun r1 M1 w1 => ?_)
  obtain ⟨rfl, w1⟩ := w1
  refine pg_aload_n (pc := 5) (i := 0) (j := 0) (x := 207) dX11_begins_5 rfl rfl ?_
  refine gfX11_113 (pc := 6) rfl h0 dX11_begins_6 ?_
  refine pg_bipush (pc := 9) (v := 28) dX11_begins_9 (by decide) ?_
  refine pg_iconst (pc := 11) (v := 0) dX11_begins_11 (by decide) ?_
  refine pg_iast (pc := 12) h0.2.2.2.2.2.2.2.2.2.2.2.2.2.2.1 (by unfold vp_in; decide) dX11_begins_12 ?_
  refine pg_aload_n (pc := 13) (i := 0) (j := 0) (x := 207) dX11_begins_13 rfl rfl ?_
  refine gfX11_104 (pc := 14) rfl h0 dX11_begins_14 ?_
  refine pg_iconst (pc := 17) (v := 0) dX11_begins_17 (by decide) ?_
  refine pg_iconst (pc := 18) (v := 0) dX11_begins_18 (by decide) ?_
  refine pg_iast (pc := 19) h0.2.2.2.2.2.2.2.2.2.2.2.1 (by unfold vp_in; decide) dX11_begins_19 ?_
  refine pg_aload_n (pc := 20) (i := 0) (j := 0) (x := 207) dX11_begins_20 rfl rfl ?_
  refine pg_iconst (pc := 21) (v := 0) dX11_begins_21 (by decide) ?_
  refine pfX11_285 (pc := 22) rfl h0 dX11_begins_22 ?_
  refine pg_iconst (pc := 25) (v := 0) dX11_begins_25 (by decide) ?_
  refine pg_istore_n (pc := 26) (i := 1) (ls' := [(1, .int 0), (0, .ref 207)]) dX11_begins_26 rfl (by decide) rfl ?_
  refine pg_drop (ks := [1, 0]) (ls' := [(0, .ref 207), (1, .int 0)]) rfl ?_
  exact k0 M1 w1
theorem sX11_begins_27 {v1 : Int32} 
    (h0 : pg_isX11 Λ)
    (k0 : (4 ≤ v1) → P none M)
    (b0 : (¬ 4 ≤ v1) → vp_in v1 4)
    (k1 : (¬ 4 ≤ v1) → pg_At S Λ YX11_begins (d + 1) 27 [(0, .ref 207), (1, .int (v1 + 1))] [] (pg_si M 222 v1.toNatClampNeg (vp_nar .boolean 0)) P) :
    pg_At S Λ YX11_begins (d + 1) 27 [(0, .ref 207), (1, .int v1)] [] M P := by
  refine pg_iload_n (pc := 27) (i := 1) (j := 1) (x := v1) dX11_begins_27 rfl rfl ?_
  refine pg_iconst (pc := 28) (v := 4) dX11_begins_28 (by decide) ?_
  refine pg_icmp_ge (pc := 29) (tgt := 45) dX11_begins_29 (by decide) (fun c0 => ?_) (fun c0 => ?_)
  · skip
    exact pg_vret (pc := 45) rfl dX11_begins_45 (k0 c0)
  · skip
    refine pg_aload_n (pc := 32) (i := 0) (j := 0) (x := 207) dX11_begins_32 rfl rfl ?_
    refine gfX11_116 (pc := 33) rfl h0 dX11_begins_33 ?_
    refine pg_iload_n (pc := 36) (i := 1) (j := 1) (x := v1) dX11_begins_36 rfl rfl ?_
    refine pg_iconst (pc := 37) (v := 0) dX11_begins_37 (by decide) ?_
    refine pg_zast (pc := 38) h0.2.2.2.2.2.2.2.2.2.2.2.2.2.2.2.1 (b0 c0) dX11_begins_38 ?_
    refine pg_iinc (pc := 39) (i := 1) (j := 1) (x := v1) (v := v1 + 1) (ls' := [(1, .int (v1 + 1)), (0, .ref 207)]) dX11_begins_39 rfl rfl (by decide) rfl ?_
    refine pg_goto (pc := 42) (tgt := 27) dX11_begins_42 (by decide) ?_
    refine pg_drop (ks := [1, 0]) (ls' := [(0, .ref 207), (1, .int (v1 + 1))]) rfl ?_
    exact k1 c0
theorem oX11_begins {d : Nat}  (h : pg_At S Λ YX11_begins d 0 [(0, .ref 207)] [] M P) : pg_Ev S Λ YX11_begins d [.ref 207] M P := pg_Ev.of (by decide) (by first | decide | exact Nat.le_of_ble_eq_true rfl) h
theorem sX11_keeps_0  {Q0 : pg_M → Prop}
    (h0 : pg_isX11 Λ)
    (e0 : (¬ (M.1 207 23) = 16) → pg_Ev S Λ YX11_copies d [.ref 207, .int 0, .int (54 * (5 + (M.1 207 23))), .int 28] M (fun r M' => r = none ∧ Q0 M'))
    (k0 : (¬ (M.1 207 23) = 16) → ∀ M1, Q0 M1 → P none (pg_si M1 207 23 ((M1.1 207 23) + 1)))
    (k1 : ((M.1 207 23) = 16) → pg_At S Λ YX11_keeps (d + 1) 11 [(0, .ref 207), (1, .int 1)] [] M P) :
    pg_At S Λ YX11_keeps (d + 1) 0 [(0, .ref 207)] [] M P := by
  refine pg_aload_n (pc := 0) (i := 0) (j := 0) (x := 207) dX11_keeps_0 rfl rfl ?_
  refine gfX11_285 (pc := 1) rfl h0 dX11_keeps_1 ?_
  refine pg_bipush (pc := 4) (v := 16) dX11_keeps_4 (by decide) ?_
  refine pg_icmp_ne (pc := 6) (tgt := 53) dX11_keeps_6 (by decide) (fun c0 => ?_) (fun c0 => ?_)
  · skip
    refine pg_aload_n (pc := 53) (i := 0) (j := 0) (x := 207) dX11_keeps_53 rfl rfl ?_
    refine pg_iconst (pc := 54) (v := 0) dX11_keeps_54 (by decide) ?_
    refine pg_bipush (pc := 55) (v := 54) dX11_keeps_55 (by decide) ?_
    refine pg_iconst (pc := 57) (v := 5) dX11_keeps_57 (by decide) ?_
    refine pg_aload_n (pc := 58) (i := 0) (j := 0) (x := 207) dX11_keeps_58 rfl rfl ?_
    refine gfX11_285 (pc := 59) rfl h0 dX11_keeps_59 ?_
    refine pg_iadd (pc := 62) dX11_keeps_62 ?_
    refine pg_imul (pc := 63) dX11_keeps_63 ?_
    refine pg_bipush (pc := 64) (v := 28) dX11_keeps_64 (by decide) ?_
    refine pg_callV (pc := 66) (As := [.int 0, .int (54 * (5 + (M.1 207 23))), .int 28]) (st := []) okX11_copies lkX11_288 rfl h0.1 rfl (Nat.le_refl _) (Nat.le_of_ble_eq_true rfl) (e0 c0) dX11_keeps_66 (fun r1 M1 w1 => ?_)
    obtain ⟨rfl, w1⟩ := w1
    refine pg_aload_n (pc := 69) (i := 0) (j := 0) (x := 207) dX11_keeps_69 rfl rfl ?_
    refine pg_dup (pc := 70) dX11_keeps_70 rfl ?_
    refine gfX11_285 (pc := 71) rfl h0 dX11_keeps_71 ?_
    refine pg_iconst (pc := 74) (v := 1) dX11_keeps_74 (by decide) ?_
    refine pg_iadd (pc := 75) dX11_keeps_75 ?_
    refine pfX11_285 (pc := 76) rfl h0 dX11_keeps_76 ?_
    exact pg_vret (pc := 79) rfl dX11_keeps_79 (k0 c0 M1 w1)
  · skip
    refine pg_iconst (pc := 9) (v := 1) dX11_keeps_9 (by decide) ?_
    refine pg_istore_n (pc := 10) (i := 1) (ls' := [(1, .int 1), (0, .ref 207)]) dX11_keeps_10 rfl (by decide) rfl ?_
    refine pg_drop (ks := [1, 0]) (ls' := [(0, .ref 207), (1, .int 1)]) rfl ?_
    exact k1 c0
theorem sX11_keeps_11 {v1 : Int32} {Q0 : pg_M → Prop} {Q1 : pg_M → Prop}
    (h0 : pg_isX11 Λ)
    (e0 : (16 ≤ v1) → pg_Ev S Λ YX11_copies d [.ref 207, .int 0, .int (54 * (5 + ((pg_si M 207 23 ((M.1 207 23) - 1)).1 207 23))), .int 28] (pg_si M 207 23 ((M.1 207 23) - 1)) (fun r M' => r = none ∧ Q0 M'))
    (k0 : (16 ≤ v1) → ∀ M1, Q0 M1 → P none (pg_si M1 207 23 ((M1.1 207 23) + 1)))
    (e1 : (¬ 16 ≤ v1) → pg_Ev S Λ YX11_copies d [.ref 207, .int (54 * (5 + v1)), .int (54 * ((5 + v1) - 1)), .int 28] M (fun r M' => r = none ∧ Q1 M'))
    (k1 : (¬ 16 ≤ v1) → ∀ M2, Q1 M2 → pg_At S Λ YX11_keeps (d + 1) 11 [(0, .ref 207), (1, .int (v1 + 1))] [] M2 P) :
    pg_At S Λ YX11_keeps (d + 1) 11 [(0, .ref 207), (1, .int v1)] [] M P := by
  refine pg_iload_n (pc := 11) (i := 1) (j := 1) (x := v1) dX11_keeps_11 rfl rfl ?_
  refine pg_bipush (pc := 12) (v := 16) dX11_keeps_12 (by decide) ?_
  refine pg_icmp_ge (pc := 14) (tgt := 43) dX11_keeps_14 (by decide) (fun c0 => ?_) (fun c0 => ?_)
  · skip
    refine pg_aload_n (pc := 43) (i := 0) (j := 0) (x := 207) dX11_keeps_43 rfl rfl ?_
    refine pg_dup (pc := 44) dX11_keeps_44 rfl ?_
    refine gfX11_285 (pc := 45) rfl h0 dX11_keeps_45 ?_
    refine pg_iconst (pc := 48) (v := 1) dX11_keeps_48 (by decide) ?_
    refine pg_isub (pc := 49) dX11_keeps_49 ?_
    refine pfX11_285 (pc := 50) rfl h0 dX11_keeps_50 ?_
    refine pg_aload_n (pc := 53) (i := 0) (j := 0) (x := 207) dX11_keeps_53 rfl rfl ?_
    refine pg_iconst (pc := 54) (v := 0) dX11_keeps_54 (by decide) ?_
    refine pg_bipush (pc := 55) (v := 54) dX11_keeps_55 (by decide) ?_
    refine pg_iconst (pc := 57) (v := 5) dX11_keeps_57 (by decide) ?_
    refine pg_aload_n (pc := 58) (i := 0) (j := 0) (x := 207) dX11_keeps_58 rfl rfl ?_
    refine gfX11_285 (pc := 59) rfl h0 dX11_keeps_59 ?_
    refine pg_iadd (pc := 62) dX11_keeps_62 ?_
    refine pg_imul (pc := 63) dX11_keeps_63 ?_
    refine pg_bipush (pc := 64) (v := 28) dX11_keeps_64 (by decide) ?_
    refine pg_callV (pc := 66) (As := [.int 0, .int (54 * (5 + ((pg_si M 207 23 ((M.1 207 23) - 1)).1 207 23))), .int 28]) (st := []) okX11_copies lkX11_288 rfl h0.1 rfl (Nat.le_refl _) (Nat.le_of_ble_eq_true rfl) (e0 c0) dX11_keeps_66 (fun r1 M1 w1 => ?_)
    obtain ⟨rfl, w1⟩ := w1
    refine pg_aload_n (pc := 69) (i := 0) (j := 0) (x := 207) dX11_keeps_69 rfl rfl ?_
    refine pg_dup (pc := 70) dX11_keeps_70 rfl ?_
    refine gfX11_285 (pc := 71) rfl h0 dX11_keeps_71 ?_
    refine pg_iconst (pc := 74) (v := 1) dX11_keeps_74 (by decide) ?_
    refine pg_iadd (pc := 75) dX11_keeps_75 ?_
    refine pfX11_285 (pc := 76) rfl h0 dX11_keeps_76 ?_
    exact pg_vret (pc := 79) rfl dX11_keeps_79 (k0 c0 M1 w1)
  · skip
    refine pg_aload_n (pc := 17) (i := 0) (j := 0) (x := 207) dX11_keeps_17 rfl rfl ?_
    refine pg_bipush (pc := 18) (v := 54) dX11_keeps_18 (by decide) ?_
    refine pg_iconst (pc := 20) (v := 5) dX11_keeps_20 (by decide) ?_
    refine pg_iload_n (pc := 21) (i := 1) (j := 1) (x := v1) dX11_keeps_21 rfl rfl ?_
    refine pg_iadd (pc := 22) dX11_keeps_22 ?_
    refine pg_imul (pc := 23) dX11_keeps_23 ?_
    refine pg_bipush (pc := 24) (v := 54) dX11_keeps_24 (by decide) ?_
    refine pg_iconst (pc := 26) (v := 5) dX11_keeps_26 (by decide) ?_
    refine pg_iload_n (pc := 27) (i := 1) (j := 1) (x := v1) dX11_keeps_27 rfl rfl ?_
    refine pg_iadd (pc := 28) dX11_keeps_28 ?_
    refine pg_iconst (pc := 29) (v := 1) dX11_keeps_29 (by decide) ?_
    refine pg_isub (pc := 30) dX11_keeps_30 ?_
    refine pg_imul (pc := 31) dX11_keeps_31 ?_
    refine pg_bipush (pc := 32) (v := 28) dX11_keeps_32 (by decide) ?_
    refine pg_callV (pc := 34) (As := [.int (54 * (5 + v1)), .int (54 * ((5 + v1) - 1)), .int 28]) (st := []) okX11_copies lkX11_288 rfl h0.1 rfl (Nat.le_refl _) (Nat.le_of_ble_eq_true rfl) (e1 c0) dX11_keeps_34 (fun r2 M2 w2 => ?_)
    obtain ⟨rfl, w2⟩ := w2
    refine pg_iinc (pc := 37) (i := 1) (j := 1) (x := v1) (v := v1 + 1) (ls' := [(1, .int (v1 + 1)), (0, .ref 207)]) dX11_keeps_37 rfl rfl (by decide) rfl ?_
    refine pg_goto (pc := 40) (tgt := 11) dX11_keeps_40 (by decide) ?_
    refine pg_drop (ks := [1, 0]) (ls' := [(0, .ref 207), (1, .int (v1 + 1))]) rfl ?_
    exact k1 c0 M2 w2
theorem oX11_keeps {d : Nat}  (h : pg_At S Λ YX11_keeps d 0 [(0, .ref 207)] [] M P) : pg_Ev S Λ YX11_keeps d [.ref 207] M P := pg_Ev.of (by decide) (by first | decide | exact Nat.le_of_ble_eq_true rfl) h
theorem sX11_cloths_0  
    (h0 : pg_isX11 Λ)
    (k0 : P (some (.int (M.1 213 (0 : Int32).toNatClampNeg))) M) :
    pg_At S Λ YX11_cloths d 0 [(0, .ref 207)] [] M P := by
  refine pg_aload_n (pc := 0) (i := 0) (j := 0) (x := 207) dX11_cloths_0 rfl rfl ?_
  refine gfX11_89 (pc := 1) rfl h0 dX11_cloths_1 ?_
  refine pg_iconst (pc := 4) (v := 0) dX11_cloths_4 (by decide) ?_
  refine pg_iald (pc := 5) h0.2.2.2.2.2.2.1 (by unfold vp_in; decide) dX11_cloths_5 ?_
  exact pg_iret (pc := 6) rfl dX11_cloths_6 k0
theorem oX11_cloths {d : Nat}  (h : pg_At S Λ YX11_cloths d 0 [(0, .ref 207)] [] M P) : pg_Ev S Λ YX11_cloths d [.ref 207] M P := pg_Ev.of (by decide) (by first | decide | exact Nat.le_of_ble_eq_true rfl) h
theorem sX11_clothOf_0 {v1 : Int32} {v2 : Int32} 
    (h0 : pg_isX11 Λ)
    (b0 : vp_in ((8 + (4 * v1)) + v2) 200)
    (k0 : P (some (.int (M.1 213 ((8 + (4 * v1)) + v2).toNatClampNeg))) M) :
    pg_At S Λ YX11_clothOf d 0 [(0, .ref 207), (1, .int v1), (2, .int v2)] [] M P := by
  refine pg_aload_n (pc := 0) (i := 0) (j := 0) (x := 207) dX11_clothOf_0 rfl rfl ?_
  refine gfX11_89 (pc := 1) rfl h0 dX11_clothOf_1 ?_
  refine pg_bipush (pc := 4) (v := 8) dX11_clothOf_4 (by decide) ?_
  refine pg_iconst (pc := 6) (v := 4) dX11_clothOf_6 (by decide) ?_
  refine pg_iload_n (pc := 7) (i := 1) (j := 1) (x := v1) dX11_clothOf_7 rfl rfl ?_
  refine pg_imul (pc := 8) dX11_clothOf_8 ?_
  refine pg_iadd (pc := 9) dX11_clothOf_9 ?_
  refine pg_iload_n (pc := 10) (i := 2) (j := 2) (x := v2) dX11_clothOf_10 rfl rfl ?_
  refine pg_iadd (pc := 11) dX11_clothOf_11 ?_
  refine pg_iald (pc := 12) h0.2.2.2.2.2.2.1 b0 dX11_clothOf_12 ?_
  exact pg_iret (pc := 13) rfl dX11_clothOf_13 k0
theorem oX11_clothOf {d : Nat} {v1 : Int32} {v2 : Int32} (h : pg_At S Λ YX11_clothOf d 0 [(0, .ref 207), (1, .int v1), (2, .int v2)] [] M P) : pg_Ev S Λ YX11_clothOf d [.ref 207, .int v1, .int v2] M P := pg_Ev.of (by decide) (by first | decide | exact Nat.le_of_ble_eq_true rfl) h
theorem sX11_isCloth_0 {v1 : Int32} {Q0 : Int32 → pg_M → Prop}
    (h0 : pg_isX11 Λ)
    (k0 : (v1 < 0) → P (some (.int 0)) M)
    (e0 : (¬ v1 < 0) → pg_Ev S Λ YX11_cloths d [.ref 207] M (fun r M' => ∃ x, r = some (.int x) ∧ Q0 x M'))
    (k1 : (¬ v1 < 0) → ∀ x1 M1, Q0 x1 M1 → (x1 ≤ v1) → P (some (.int 0)) M1)
    (k2 : (¬ v1 < 0) → ∀ x1 M1, Q0 x1 M1 → (¬ x1 ≤ v1) → P (some (.int 1)) M1) :
    pg_At S Λ YX11_isCloth (d + 1) 0 [(0, .ref 207), (1, .int v1)] [] M P := by
  refine pg_iload_n (pc := 0) (i := 1) (j := 1) (x := v1) dX11_isCloth_0 rfl rfl ?_
  refine pg_if_lt (pc := 1) (tgt := 16) dX11_isCloth_1 (by decide) (fun c0 => ?_) (fun c0 => ?_)
  · skip
    refine pg_iconst (pc := 16) (v := 0) dX11_isCloth_16 (by decide) ?_
    exact pg_zret (pc := 17) rfl rfl dX11_isCloth_17 (k0 c0)
  · skip
    refine pg_iload_n (pc := 4) (i := 1) (j := 1) (x := v1) dX11_isCloth_4 rfl rfl ?_
    refine pg_aload_n (pc := 5) (i := 0) (j := 0) (x := 207) dX11_isCloth_5 rfl rfl ?_
    refine pg_callV (pc := 6) (As := []) (st := [.int v1]) okX11_cloths lkX11_292 rfl h0.1 rfl (Nat.le_refl _) (Nat.le_of_ble_eq_true rfl) (e0 c0) dX11_isCloth_6 (fun r1 M1 w1 => ?_)
    obtain ⟨x1, rfl, w1⟩ := w1
    refine pg_icmp_ge (pc := 9) (tgt := 16) dX11_isCloth_9 (by decide) (fun c1 => ?_) (fun c1 => ?_)
    · skip
      refine pg_iconst (pc := 16) (v := 0) dX11_isCloth_16 (by decide) ?_
      exact pg_zret (pc := 17) rfl rfl dX11_isCloth_17 (k1 c0 x1 M1 w1 c1)
    · skip
      refine pg_iconst (pc := 12) (v := 1) dX11_isCloth_12 (by decide) ?_
      refine pg_goto (pc := 13) (tgt := 17) dX11_isCloth_13 (by decide) ?_
      exact pg_zret (pc := 17) rfl rfl dX11_isCloth_17 (k2 c0 x1 M1 w1 c1)
theorem oX11_isCloth {d : Nat} {v1 : Int32} (h : pg_At S Λ YX11_isCloth d 0 [(0, .ref 207), (1, .int v1)] [] M P) : pg_Ev S Λ YX11_isCloth d [.ref 207, .int v1] M P := pg_Ev.of (by decide) (by first | decide | exact Nat.le_of_ble_eq_true rfl) h
theorem sX11_bits_0 {v0 : Int32} 
    (k0 : pg_At S Λ YX11_bits d 4 [(0, .int v0), (1, .int 0), (2, .int 0)] [] M P) :
    pg_At S Λ YX11_bits d 0 [(0, .int v0)] [] M P := by
  refine pg_iconst (pc := 0) (v := 0) dX11_bits_0 (by decide) ?_
  refine pg_istore_n (pc := 1) (i := 1) (ls' := [(1, .int 0), (0, .int v0)]) dX11_bits_1 rfl (by decide) rfl ?_
  refine pg_iconst (pc := 2) (v := 0) dX11_bits_2 (by decide) ?_
  refine pg_istore_n (pc := 3) (i := 2) (ls' := [(2, .int 0), (1, .int 0), (0, .int v0)]) dX11_bits_3 rfl (by decide) rfl ?_
  refine pg_drop (ks := [2, 1, 0]) (ls' := [(0, .int v0), (1, .int 0), (2, .int 0)]) rfl ?_
  exact k0
theorem sX11_bits_4 {v0 : Int32} {v1 : Int32} {v2 : Int32} 
    (k0 : (30 ≤ v2) → P (some (.int v1)) M)
    (k1 : (¬ 30 ≤ v2) → pg_At S Λ YX11_bits d 4 [(0, .int v0), (1, .int (v1 + ((v0 >>> (v2 &&& 31)) &&& 1))), (2, .int (v2 + 1))] [] M P) :
    pg_At S Λ YX11_bits d 4 [(0, .int v0), (1, .int v1), (2, .int v2)] [] M P := by
  refine pg_iload_n (pc := 4) (i := 2) (j := 2) (x := v2) dX11_bits_4 rfl rfl ?_
  refine pg_bipush (pc := 5) (v := 30) dX11_bits_5 (by decide) ?_
  refine pg_icmp_ge (pc := 7) (tgt := 24) dX11_bits_7 (by decide) (fun c0 => ?_) (fun c0 => ?_)
  · skip
    refine pg_iload_n (pc := 24) (i := 1) (j := 1) (x := v1) dX11_bits_24 rfl rfl ?_
    exact pg_iret (pc := 25) rfl dX11_bits_25 (k0 c0)
  · skip
    refine pg_iload_n (pc := 10) (i := 1) (j := 1) (x := v1) dX11_bits_10 rfl rfl ?_
    refine pg_iload_n (pc := 11) (i := 0) (j := 0) (x := v0) dX11_bits_11 rfl rfl ?_
    refine pg_iload_n (pc := 12) (i := 2) (j := 2) (x := v2) dX11_bits_12 rfl rfl ?_
    refine pg_ishr (pc := 13) dX11_bits_13 ?_
    refine pg_iconst (pc := 14) (v := 1) dX11_bits_14 (by decide) ?_
    refine pg_iand (pc := 15) dX11_bits_15 ?_
    refine pg_iadd (pc := 16) dX11_bits_16 ?_
    refine pg_istore_n (pc := 17) (i := 1) (ls' := [(1, .int (v1 + ((v0 >>> (v2 &&& 31)) &&& 1))), (0, .int v0), (2, .int v2)]) dX11_bits_17 rfl (by decide) rfl ?_
    refine pg_iinc (pc := 18) (i := 2) (j := 2) (x := v2) (v := v2 + 1) (ls' := [(2, .int (v2 + 1)), (1, .int (v1 + ((v0 >>> (v2 &&& 31)) &&& 1))), (0, .int v0)]) dX11_bits_18 rfl rfl (by decide) rfl ?_
    refine pg_goto (pc := 21) (tgt := 4) dX11_bits_21 (by decide) ?_
    refine pg_drop (ks := [2, 1, 0]) (ls' := [(0, .int v0), (1, .int (v1 + ((v0 >>> (v2 &&& 31)) &&& 1))), (2, .int (v2 + 1))]) rfl ?_
    exact k1 c0
theorem oX11_bits {d : Nat} {v0 : Int32} (h : pg_At S Λ YX11_bits d 0 [(0, .int v0)] [] M P) : pg_Ev S Λ YX11_bits d [.int v0] M P := pg_Ev.of (by decide) (by first | decide | exact Nat.le_of_ble_eq_true rfl) h
theorem sX11_needs_0 {v1 : Int32} {Q0 : Int32 → pg_M → Prop}
    (h0 : pg_isX11 Λ)
    (e0 : pg_Ev S Λ YX11_clothOf d [.ref 207, .int v1, .int 0] M (fun r M' => ∃ x, r = some (.int x) ∧ Q0 x M'))
    (k0 : ∀ x1 M1, Q0 x1 M1 → (¬ x1 = 1) → P (some (.int 2)) M1)
    (k1 : ∀ x1 M1, Q0 x1 M1 → (x1 = 1) → P (some (.int 4)) M1) :
    pg_At S Λ YX11_needs (d + 1) 0 [(0, .ref 207), (1, .int v1)] [] M P := by
  refine pg_aload_n (pc := 0) (i := 0) (j := 0) (x := 207) dX11_needs_0 rfl rfl ?_
  refine pg_iload_n (pc := 1) (i := 1) (j := 1) (x := v1) dX11_needs_1 rfl rfl ?_
  refine pg_iconst (pc := 2) (v := 0) dX11_needs_2 (by decide) ?_
  refine pg_callV (pc := 3) (As := [.int v1, .int 0]) (st := []) okX11_clothOf lkX11_295 rfl h0.1 rfl (Nat.le_refl _) (Nat.le_of_ble_eq_true rfl) e0 dX11_needs_3 (fun r1 M1 w1 => ?_)
  obtain ⟨x1, rfl, w1⟩ := w1
  refine pg_iconst (pc := 6) (v := 1) dX11_needs_6 (by decide) ?_
  refine pg_icmp_ne (pc := 7) (tgt := 14) dX11_needs_7 (by decide) (fun c0 => ?_) (fun c0 => ?_)
  · skip
    refine pg_iconst (pc := 14) (v := 2) dX11_needs_14 (by decide) ?_
    exact pg_iret (pc := 15) rfl dX11_needs_15 (k0 x1 M1 w1 c0)
  · skip
    refine pg_iconst (pc := 10) (v := 4) dX11_needs_10 (by decide) ?_
    refine pg_goto (pc := 11) (tgt := 15) dX11_needs_11 (by decide) ?_
    exact pg_iret (pc := 15) rfl dX11_needs_15 (k1 x1 M1 w1 c0)
theorem oX11_needs {d : Nat} {v1 : Int32} (h : pg_At S Λ YX11_needs d 0 [(0, .ref 207), (1, .int v1)] [] M P) : pg_Ev S Λ YX11_needs d [.ref 207, .int v1] M P := pg_Ev.of (by decide) (by first | decide | exact Nat.le_of_ble_eq_true rfl) h
theorem sX11_isHung_0 {v1 : Int32} {v2 : Int32} 
    (h0 : pg_isX11 Λ)
    (b0 : vp_in ((v1 + 14) + v2) 1242)
    (k0 : ((M.1 221 ((v1 + 14) + v2).toNatClampNeg) = 0) → P (some (.int 0)) M)
    (k1 : (¬ (M.1 221 ((v1 + 14) + v2).toNatClampNeg) = 0) → P (some (.int 1)) M) :
    pg_At S Λ YX11_isHung d 0 [(0, .ref 207), (1, .int v1), (2, .int v2)] [] M P := by
  refine pg_aload_n (pc := 0) (i := 0) (j := 0) (x := 207) dX11_isHung_0 rfl rfl ?_
  refine gfX11_113 (pc := 1) rfl h0 dX11_isHung_1 ?_
  refine pg_iload_n (pc := 4) (i := 1) (j := 1) (x := v1) dX11_isHung_4 rfl rfl ?_
  refine pg_bipush (pc := 5) (v := 14) dX11_isHung_5 (by decide) ?_
  refine pg_iadd (pc := 7) dX11_isHung_7 ?_
  refine pg_iload_n (pc := 8) (i := 2) (j := 2) (x := v2) dX11_isHung_8 rfl rfl ?_
  refine pg_iadd (pc := 9) dX11_isHung_9 ?_
  refine pg_iald (pc := 10) h0.2.2.2.2.2.2.2.2.2.2.2.2.2.2.1 b0 dX11_isHung_10 ?_
  refine pg_if_eq (pc := 11) (tgt := 18) dX11_isHung_11 (by decide) (fun c0 => ?_) (fun c0 => ?_)
  · skip
    refine pg_iconst (pc := 18) (v := 0) dX11_isHung_18 (by decide) ?_
    exact pg_zret (pc := 19) rfl rfl dX11_isHung_19 (k0 c0)
  · skip
    refine pg_iconst (pc := 14) (v := 1) dX11_isHung_14 (by decide) ?_
    refine pg_goto (pc := 15) (tgt := 19) dX11_isHung_15 (by decide) ?_
    exact pg_zret (pc := 19) rfl rfl dX11_isHung_19 (k1 c0)
theorem oX11_isHung {d : Nat} {v1 : Int32} {v2 : Int32} (h : pg_At S Λ YX11_isHung d 0 [(0, .ref 207), (1, .int v1), (2, .int v2)] [] M P) : pg_Ev S Λ YX11_isHung d [.ref 207, .int v1, .int v2] M P := pg_Ev.of (by decide) (by first | decide | exact Nat.le_of_ble_eq_true rfl) h
theorem sX11_isLaw_0 {v1 : Int32} {v2 : Int32} {Q0 : Int32 → pg_M → Prop} {Q1 : Int32 → pg_M → Prop}
    (h0 : pg_isX11 Λ)
    (b0 : vp_in ((v1 + 14) + v2) 1242)
    (e0 : pg_Ev S Λ YX11_bits d [.int (M.1 221 ((v1 + 14) + v2).toNatClampNeg)] M (fun r M' => ∃ x, r = some (.int x) ∧ Q0 x M'))
    (e1 : ∀ x1 M1, Q0 x1 M1 → pg_Ev S Λ YX11_needs d [.ref 207, .int v2] M1 (fun r M' => ∃ x, r = some (.int x) ∧ Q1 x M'))
    (k0 : ∀ x1 M1, Q0 x1 M1 → ∀ x2 M2, Q1 x2 M2 → (¬ x1 = x2) → P (some (.int 0)) M2)
    (b1 : ∀ x1 M1, Q0 x1 M1 → ∀ x2 M2, Q1 x2 M2 → (x1 = x2) → vp_in ((v1 + 8) + v2) 1242)
    (k1 : ∀ x1 M1, Q0 x1 M1 → ∀ x2 M2, Q1 x2 M2 → (x1 = x2) → (3 ≤ (M2.1 221 ((v1 + 8) + v2).toNatClampNeg)) → P (some (.int 0)) M2)
    (k2 : ∀ x1 M1, Q0 x1 M1 → ∀ x2 M2, Q1 x2 M2 → (x1 = x2) → (¬ 3 ≤ (M2.1 221 ((v1 + 8) + v2).toNatClampNeg)) → P (some (.int 1)) M2) :
    pg_At S Λ YX11_isLaw (d + 1) 0 [(0, .ref 207), (1, .int v1), (2, .int v2)] [] M P := by
  refine pg_aload_n (pc := 0) (i := 0) (j := 0) (x := 207) dX11_isLaw_0 rfl rfl ?_
  refine gfX11_113 (pc := 1) rfl h0 dX11_isLaw_1 ?_
  refine pg_iload_n (pc := 4) (i := 1) (j := 1) (x := v1) dX11_isLaw_4 rfl rfl ?_
  refine pg_bipush (pc := 5) (v := 14) dX11_isLaw_5 (by decide) ?_
  refine pg_iadd (pc := 7) dX11_isLaw_7 ?_
  refine pg_iload_n (pc := 8) (i := 2) (j := 2) (x := v2) dX11_isLaw_8 rfl rfl ?_
  refine pg_iadd (pc := 9) dX11_isLaw_9 ?_
  refine pg_iald (pc := 10) h0.2.2.2.2.2.2.2.2.2.2.2.2.2.2.1 b0 dX11_isLaw_10 ?_
  refine pg_callS (pc := 11) (As := [.int (M.1 221 ((v1 + 14) + v2).toNatClampNeg)]) (st := []) okX11_bits lkX11_298 rfl (Nat.le_refl _) (Nat.le_of_ble_eq_true rfl) e0 dX11_isLaw_11 (fun r1 M1 w1 => ?_)
  obtain ⟨x1, rfl, w1⟩ := w1
  refine pg_aload_n (pc := 14) (i := 0) (j := 0) (x := 207) dX11_isLaw_14 rfl rfl ?_
  refine pg_iload_n (pc := 15) (i := 2) (j := 2) (x := v2) dX11_isLaw_15 rfl rfl ?_
  refine pg_callV (pc := 16) (As := [.int v2]) (st := [.int x1]) okX11_needs lkX11_301 rfl h0.1 rfl (Nat.le_refl _) (Nat.le_of_ble_eq_true rfl) (e1 x1 M1 w1) dX11_isLaw_16 (fun r2 M2 w2 => ?_)
  obtain ⟨x2, rfl, w2⟩ := w2
  refine pg_icmp_ne (pc := 19) (tgt := 41) dX11_isLaw_19 (by decide) (fun c0 => ?_) (fun c0 => ?_)
  · skip
    refine pg_iconst (pc := 41) (v := 0) dX11_isLaw_41 (by decide) ?_
    exact pg_zret (pc := 42) rfl rfl dX11_isLaw_42 (k0 x1 M1 w1 x2 M2 w2 c0)
  · skip
    refine pg_aload_n (pc := 22) (i := 0) (j := 0) (x := 207) dX11_isLaw_22 rfl rfl ?_
    refine gfX11_113 (pc := 23) rfl h0 dX11_isLaw_23 ?_
    refine pg_iload_n (pc := 26) (i := 1) (j := 1) (x := v1) dX11_isLaw_26 rfl rfl ?_
    refine pg_bipush (pc := 27) (v := 8) dX11_isLaw_27 (by decide) ?_
    refine pg_iadd (pc := 29) dX11_isLaw_29 ?_
    refine pg_iload_n (pc := 30) (i := 2) (j := 2) (x := v2) dX11_isLaw_30 rfl rfl ?_
    refine pg_iadd (pc := 31) dX11_isLaw_31 ?_
    refine pg_iald (pc := 32) h0.2.2.2.2.2.2.2.2.2.2.2.2.2.2.1 (b1 x1 M1 w1 x2 M2 w2 c0) dX11_isLaw_32 ?_
    refine pg_iconst (pc := 33) (v := 3) dX11_isLaw_33 (by decide) ?_
    refine pg_icmp_ge (pc := 34) (tgt := 41) dX11_isLaw_34 (by decide) (fun c1 => ?_) (fun c1 => ?_)
    · skip
      refine pg_iconst (pc := 41) (v := 0) dX11_isLaw_41 (by decide) ?_
      exact pg_zret (pc := 42) rfl rfl dX11_isLaw_42 (k1 x1 M1 w1 x2 M2 w2 c0 c1)
    · skip
      refine pg_iconst (pc := 37) (v := 1) dX11_isLaw_37 (by decide) ?_
      refine pg_goto (pc := 38) (tgt := 42) dX11_isLaw_38 (by decide) ?_
      exact pg_zret (pc := 42) rfl rfl dX11_isLaw_42 (k2 x1 M1 w1 x2 M2 w2 c0 c1)
theorem oX11_isLaw {d : Nat} {v1 : Int32} {v2 : Int32} (h : pg_At S Λ YX11_isLaw d 0 [(0, .ref 207), (1, .int v1), (2, .int v2)] [] M P) : pg_Ev S Λ YX11_isLaw d [.ref 207, .int v1, .int v2] M P := pg_Ev.of (by decide) (by first | decide | exact Nat.le_of_ble_eq_true rfl) h
theorem sX11_isTurned_0 {v1 : Int32} {v2 : Int32} {Q0 : Int32 → pg_M → Prop}
    (h0 : pg_isX11 Λ)
    (b0 : vp_in ((v1 + 14) + v2) 1242)
    (e0 : pg_Ev S Λ YX11_bits d [.int (M.1 221 ((v1 + 14) + v2).toNatClampNeg)] M (fun r M' => ∃ x, r = some (.int x) ∧ Q0 x M'))
    (k0 : ∀ x1 M1, Q0 x1 M1 → (¬ x1 = 1) → P (some (.int 0)) M1)
    (k1 : ∀ x1 M1, Q0 x1 M1 → (x1 = 1) → P (some (.int 1)) M1) :
    pg_At S Λ YX11_isTurned (d + 1) 0 [(0, .ref 207), (1, .int v1), (2, .int v2)] [] M P := by
  refine pg_aload_n (pc := 0) (i := 0) (j := 0) (x := 207) dX11_isTurned_0 rfl rfl ?_
  refine gfX11_113 (pc := 1) rfl h0 dX11_isTurned_1 ?_
  refine pg_iload_n (pc := 4) (i := 1) (j := 1) (x := v1) dX11_isTurned_4 rfl rfl ?_
  refine pg_bipush (pc := 5) (v := 14) dX11_isTurned_5 (by decide) ?_
  refine pg_iadd (pc := 7) dX11_isTurned_7 ?_
  refine pg_iload_n (pc := 8) (i := 2) (j := 2) (x := v2) dX11_isTurned_8 rfl rfl ?_
  refine pg_iadd (pc := 9) dX11_isTurned_9 ?_
  refine pg_iald (pc := 10) h0.2.2.2.2.2.2.2.2.2.2.2.2.2.2.1 b0 dX11_isTurned_10 ?_
  refine pg_callS (pc := 11) (As := [.int (M.1 221 ((v1 + 14) + v2).toNatClampNeg)]) (st := []) okX11_bits lkX11_298 rfl (Nat.le_refl _) (Nat.le_of_ble_eq_true rfl) e0 dX11_isTurned_11 (fun r1 M1 w1 => ?_)
  obtain ⟨x1, rfl, w1⟩ := w1
  refine pg_iconst (pc := 14) (v := 1) dX11_isTurned_14 (by decide) ?_
  refine pg_icmp_ne (pc := 15) (tgt := 22) dX11_isTurned_15 (by decide) (fun c0 => ?_) (fun c0 => ?_)
  · skip
    refine pg_iconst (pc := 22) (v := 0) dX11_isTurned_22 (by decide) ?_
    exact pg_zret (pc := 23) rfl rfl dX11_isTurned_23 (k0 x1 M1 w1 c0)
  · skip
    refine pg_iconst (pc := 18) (v := 1) dX11_isTurned_18 (by decide) ?_
    refine pg_goto (pc := 19) (tgt := 23) dX11_isTurned_19 (by decide) ?_
    exact pg_zret (pc := 23) rfl rfl dX11_isTurned_23 (k1 x1 M1 w1 c0)
theorem oX11_isTurned {d : Nat} {v1 : Int32} {v2 : Int32} (h : pg_At S Λ YX11_isTurned d 0 [(0, .ref 207), (1, .int v1), (2, .int v2)] [] M P) : pg_Ev S Λ YX11_isTurned d [.ref 207, .int v1, .int v2] M P := pg_Ev.of (by decide) (by first | decide | exact Nat.le_of_ble_eq_true rfl) h
theorem sX11_roomBy_0 {v1 : Int32} {v2 : Int32} {Q0 : Int32 → pg_M → Prop} {Q1 : Int32 → pg_M → Prop}
    (h0 : pg_isX11 Λ)
    (e0 : (¬ v2 = 1) → pg_Ev S Λ YX11_clothOf d [.ref 207, .int v1, .int 1] M (fun r M' => ∃ x, r = some (.int x) ∧ Q0 x M'))
    (k0 : (¬ v2 = 1) → ∀ x1 M1, Q0 x1 M1 → P (some (.int x1)) M1)
    (e1 : (v2 = 1) → pg_Ev S Λ YX11_clothOf d [.ref 207, .int v1, .int 1] M (fun r M' => ∃ x, r = some (.int x) ∧ Q1 x M'))
    (k1 : (v2 = 1) → ∀ x2 M2, Q1 x2 M2 → P (some (.int ((x2 / 2) + 1))) M2) :
    pg_At S Λ YX11_roomBy (d + 1) 0 [(0, .ref 207), (1, .int v1), (2, .int v2)] [] M P := by
  refine pg_iload_n (pc := 0) (i := 2) (j := 2) (x := v2) dX11_roomBy_0 rfl rfl ?_
  refine pg_iconst (pc := 1) (v := 1) dX11_roomBy_1 (by decide) ?_
  refine pg_icmp_ne (pc := 2) (tgt := 18) dX11_roomBy_2 (by decide) (fun c0 => ?_) (fun c0 => ?_)
  · skip
    refine pg_aload_n (pc := 18) (i := 0) (j := 0) (x := 207) dX11_roomBy_18 rfl rfl ?_
    refine pg_iload_n (pc := 19) (i := 1) (j := 1) (x := v1) dX11_roomBy_19 rfl rfl ?_
    refine pg_iconst (pc := 20) (v := 1) dX11_roomBy_20 (by decide) ?_
    refine pg_callV (pc := 21) (As := [.int v1, .int 1]) (st := []) okX11_clothOf lkX11_295 rfl h0.1 rfl (Nat.le_refl _) (Nat.le_of_ble_eq_true rfl) (e0 c0) dX11_roomBy_21 (fun r1 M1 w1 => ?_)
    obtain ⟨x1, rfl, w1⟩ := w1
    exact pg_iret (pc := 24) rfl dX11_roomBy_24 (k0 c0 x1 M1 w1)
  · skip
    refine pg_aload_n (pc := 5) (i := 0) (j := 0) (x := 207) dX11_roomBy_5 rfl rfl ?_
    refine pg_iload_n (pc := 6) (i := 1) (j := 1) (x := v1) dX11_roomBy_6 rfl rfl ?_
    refine pg_iconst (pc := 7) (v := 1) dX11_roomBy_7 (by decide) ?_
    refine pg_callV (pc := 8) (As := [.int v1, .int 1]) (st := []) okX11_clothOf lkX11_295 rfl h0.1 rfl (Nat.le_refl _) (Nat.le_of_ble_eq_true rfl) (e1 c0) dX11_roomBy_8 (fun r2 M2 w2 => ?_)
    obtain ⟨x2, rfl, w2⟩ := w2
    refine pg_iconst (pc := 11) (v := 2) dX11_roomBy_11 (by decide) ?_
    refine pg_idiv (pc := 12) dX11_roomBy_12 (by decide) ?_
    refine pg_iconst (pc := 13) (v := 1) dX11_roomBy_13 (by decide) ?_
    refine pg_iadd (pc := 14) dX11_roomBy_14 ?_
    refine pg_goto (pc := 15) (tgt := 24) dX11_roomBy_15 (by decide) ?_
    exact pg_iret (pc := 24) rfl dX11_roomBy_24 (k1 c0 x2 M2 w2)
theorem oX11_roomBy {d : Nat} {v1 : Int32} {v2 : Int32} (h : pg_At S Λ YX11_roomBy d 0 [(0, .ref 207), (1, .int v1), (2, .int v2)] [] M P) : pg_Ev S Λ YX11_roomBy d [.ref 207, .int v1, .int v2] M P := pg_Ev.of (by decide) (by first | decide | exact Nat.le_of_ble_eq_true rfl) h
theorem sX11_roomLeft_0 {v1 : Int32} 
    (h0 : pg_isX11 Λ)
    (k0 : pg_At S Λ YX11_roomLeft (d + 1) 9 [(0, .ref 207), (1, .int v1), (2, .int (M.1 213 (3 : Int32).toNatClampNeg)), (3, .int 0)] [] M P) :
    pg_At S Λ YX11_roomLeft (d + 1) 0 [(0, .ref 207), (1, .int v1)] [] M P := by
  refine pg_aload_n (pc := 0) (i := 0) (j := 0) (x := 207) dX11_roomLeft_0 rfl rfl ?_
  refine gfX11_89 (pc := 1) rfl h0 dX11_roomLeft_1 ?_
  refine pg_iconst (pc := 4) (v := 3) dX11_roomLeft_4 (by decide) ?_
  refine pg_iald (pc := 5) h0.2.2.2.2.2.2.1 (by unfold vp_in; decide) dX11_roomLeft_5 ?_
  refine pg_istore_n (pc := 6) (i := 2) (ls' := [(2, .int (M.1 213 (3 : Int32).toNatClampNeg)), (0, .ref 207), (1, .int v1)]) dX11_roomLeft_6 rfl (by decide) rfl ?_
  refine pg_iconst (pc := 7) (v := 0) dX11_roomLeft_7 (by decide) ?_
  refine pg_istore_n (pc := 8) (i := 3) (ls' := [(3, .int 0), (2, .int (M.1 213 (3 : Int32).toNatClampNeg)), (0, .ref 207), (1, .int v1)]) dX11_roomLeft_8 rfl (by decide) rfl ?_
  refine pg_drop (ks := [2, 3, 1, 0]) (ls' := [(0, .ref 207), (1, .int v1), (2, .int (M.1 213 (3 : Int32).toNatClampNeg)), (3, .int 0)]) rfl ?_
  exact k0
theorem sX11_roomLeft_9 {v1 : Int32} {v2 : Int32} {v3 : Int32} {Q0 : Int32 → pg_M → Prop} {Q1 : Int32 → pg_M → Prop} {Q2 : Int32 → pg_M → Prop} {Q3 : Int32 → pg_M → Prop}
    (h0 : pg_isX11 Λ)
    (e0 : pg_Ev S Λ YX11_cloths d [.ref 207] M (fun r M' => ∃ x, r = some (.int x) ∧ Q0 x M'))
    (k0 : ∀ x1 M1, Q0 x1 M1 → (x1 ≤ v3) → P (some (.int v2)) M1)
    (e1 : ∀ x1 M1, Q0 x1 M1 → (¬ x1 ≤ v3) → pg_Ev S Λ YX11_isHung d [.ref 207, .int v1, .int v3] M1 (fun r M' => ∃ x, r = some (.int x) ∧ Q1 x M'))
    (k1 : ∀ x1 M1, Q0 x1 M1 → (¬ x1 ≤ v3) → ∀ x2 M2, Q1 x2 M2 → (x2 = 0) → pg_At S Λ YX11_roomLeft (d + 1) 9 [(0, .ref 207), (1, .int v1), (2, .int (v2 - 0)), (3, .int (v3 + 1))] [] M2 P)
    (b0 : ∀ x1 M1, Q0 x1 M1 → (¬ x1 ≤ v3) → ∀ x2 M2, Q1 x2 M2 → (¬ x2 = 0) → vp_in ((v1 + 14) + v3) 1242)
    (e2 : ∀ x1 M1, Q0 x1 M1 → (¬ x1 ≤ v3) → ∀ x2 M2, Q1 x2 M2 → (¬ x2 = 0) → pg_Ev S Λ YX11_bits d [.int (M2.1 221 ((v1 + 14) + v3).toNatClampNeg)] M2 (fun r M' => ∃ x, r = some (.int x) ∧ Q2 x M'))
    (e3 : ∀ x1 M1, Q0 x1 M1 → (¬ x1 ≤ v3) → ∀ x2 M2, Q1 x2 M2 → (¬ x2 = 0) → ∀ x3 M3, Q2 x3 M3 → pg_Ev S Λ YX11_roomBy d [.ref 207, .int v3, .int x3] M3 (fun r M' => ∃ x, r = some (.int x) ∧ Q3 x M'))
    (k2 : ∀ x1 M1, Q0 x1 M1 → (¬ x1 ≤ v3) → ∀ x2 M2, Q1 x2 M2 → (¬ x2 = 0) → ∀ x3 M3, Q2 x3 M3 → ∀ x4 M4, Q3 x4 M4 → pg_At S Λ YX11_roomLeft (d + 1) 9 [(0, .ref 207), (1, .int v1), (2, .int (v2 - x4)), (3, .int (v3 + 1))] [] M4 P) :
    pg_At S Λ YX11_roomLeft (d + 1) 9 [(0, .ref 207), (1, .int v1), (2, .int v2), (3, .int v3)] [] M P := by
  refine pg_iload_n (pc := 9) (i := 3) (j := 3) (x := v3) dX11_roomLeft_9 rfl rfl ?_
  refine pg_aload_n (pc := 10) (i := 0) (j := 0) (x := 207) dX11_roomLeft_10 rfl rfl ?_
  refine pg_callV (pc := 11) (As := []) (st := [.int v3]) okX11_cloths lkX11_292 rfl h0.1 rfl (Nat.le_refl _) (Nat.le_of_ble_eq_true rfl) e0 dX11_roomLeft_11 (fun r1 M1 w1 => ?_)
  obtain ⟨x1, rfl, w1⟩ := w1
  refine pg_icmp_ge (pc := 14) (tgt := 58) dX11_roomLeft_14 (by decide) (fun c0 => ?_) (fun c0 => ?_)
  · skip
    refine pg_iload_n (pc := 58) (i := 2) (j := 2) (x := v2) dX11_roomLeft_58 rfl rfl ?_
    exact pg_iret (pc := 59) rfl dX11_roomLeft_59 (k0 x1 M1 w1 c0)
  · skip
    refine pg_iload_n (pc := 17) (i := 2) (j := 2) (x := v2) dX11_roomLeft_17 rfl rfl ?_
    refine pg_aload_n (pc := 18) (i := 0) (j := 0) (x := 207) dX11_roomLeft_18 rfl rfl ?_
    refine pg_iload_n (pc := 19) (i := 1) (j := 1) (x := v1) dX11_roomLeft_19 rfl rfl ?_
    refine pg_iload_n (pc := 20) (i := 3) (j := 3) (x := v3) dX11_roomLeft_20 rfl rfl ?_
    refine pg_callV (pc := 21) (As := [.int v1, .int v3]) (st := [.int v2]) okX11_isHung lkX11_304 rfl h0.1 rfl (Nat.le_refl _) (Nat.le_of_ble_eq_true rfl) (e1 x1 M1 w1 c0) dX11_roomLeft_21 (fun r2 M2 w2 => ?_)
    obtain ⟨x2, rfl, w2⟩ := w2
    refine pg_if_eq (pc := 24) (tgt := 49) dX11_roomLeft_24 (by decide) (fun c1 => ?_) (fun c1 => ?_)
    · skip
      refine pg_iconst (pc := 49) (v := 0) dX11_roomLeft_49 (by decide) ?_
      refine pg_isub (pc := 50) dX11_roomLeft_50 ?_
      refine pg_istore_n (pc := 51) (i := 2) (ls' := [(2, .int (v2 - 0)), (0, .ref 207), (1, .int v1), (3, .int v3)]) dX11_roomLeft_51 rfl (by decide) rfl ?_
      refine pg_iinc (pc := 52) (i := 3) (j := 3) (x := v3) (v := v3 + 1) (ls' := [(3, .int (v3 + 1)), (2, .int (v2 - 0)), (0, .ref 207), (1, .int v1)]) dX11_roomLeft_52 rfl rfl (by decide) rfl ?_
      refine pg_goto (pc := 55) (tgt := 9) dX11_roomLeft_55 (by decide) ?_
      refine pg_drop (ks := [2, 3, 1, 0]) (ls' := [(0, .ref 207), (1, .int v1), (2, .int (v2 - 0)), (3, .int (v3 + 1))]) rfl ?_
      exact k1 x1 M1 w1 c0 x2 M2 w2 c1
    · skip
      refine pg_aload_n (pc := 27) (i := 0) (j := 0) (x := 207) dX11_roomLeft_27 rfl rfl ?_
      refine pg_iload_n (pc := 28) (i := 3) (j := 3) (x := v3) dX11_roomLeft_28 rfl rfl ?_
      refine pg_aload_n (pc := 29) (i := 0) (j := 0) (x := 207) dX11_roomLeft_29 rfl rfl ?_
      refine gfX11_113 (pc := 30) rfl h0 dX11_roomLeft_30 ?_
      refine pg_iload_n (pc := 33) (i := 1) (j := 1) (x := v1) dX11_roomLeft_33 rfl rfl ?_
      refine pg_bipush (pc := 34) (v := 14) dX11_roomLeft_34 (by decide) ?_
      refine pg_iadd (pc := 36) dX11_roomLeft_36 ?_
      refine pg_iload_n (pc := 37) (i := 3) (j := 3) (x := v3) dX11_roomLeft_37 rfl rfl ?_
      refine pg_iadd (pc := 38) dX11_roomLeft_38 ?_
      refine pg_iald (pc := 39) h0.2.2.2.2.2.2.2.2.2.2.2.2.2.2.1 (b0 x1 M1 w1 c0 x2 M2 w2 c1) dX11_roomLeft_39 ?_
      refine pg_callS (pc := 40) (As := [.int (M2.1 221 ((v1 + 14) + v3).toNatClampNeg)]) (st := [.int v3, .ref 207, .int v2]) okX11_bits lkX11_298 rfl (Nat.le_refl _) (Nat.le_of_ble_eq_true rfl) (e2 x1 M1 w1 c0 x2 M2 w2 c1) dX11_roomLeft_40 (fun r3 M3 w3 => ?_)
      obtain ⟨x3, rfl, w3⟩ := w3
      refine pg_callV (pc := 43) (As := [.int v3, .int x3]) (st := [.int v2]) okX11_roomBy lkX11_308 rfl h0.1 rfl (Nat.le_refl _) (Nat.le_of_ble_eq_true rfl) (e3 x1 M1 w1 c0 x2 M2 w2 c1 x3 M3 w3) dX11_roomLeft_43 (fun r4 M4 w4 => ?_)
      obtain ⟨x4, rfl, w4⟩ := w4
      refine pg_goto (pc := 46) (tgt := 50) dX11_roomLeft_46 (by decide) ?_
      refine pg_isub (pc := 50) dX11_roomLeft_50 ?_
      refine pg_istore_n (pc := 51) (i := 2) (ls' := [(2, .int (v2 - x4)), (0, .ref 207), (1, .int v1), (3, .int v3)]) dX11_roomLeft_51 rfl (by decide) rfl ?_
      refine pg_iinc (pc := 52) (i := 3) (j := 3) (x := v3) (v := v3 + 1) (ls' := [(3, .int (v3 + 1)), (2, .int (v2 - x4)), (0, .ref 207), (1, .int v1)]) dX11_roomLeft_52 rfl rfl (by decide) rfl ?_
      refine pg_goto (pc := 55) (tgt := 9) dX11_roomLeft_55 (by decide) ?_
      refine pg_drop (ks := [2, 3, 1, 0]) (ls' := [(0, .ref 207), (1, .int v1), (2, .int (v2 - x4)), (3, .int (v3 + 1))]) rfl ?_
      exact k2 x1 M1 w1 c0 x2 M2 w2 c1 x3 M3 w3 x4 M4 w4
theorem oX11_roomLeft {d : Nat} {v1 : Int32} (h : pg_At S Λ YX11_roomLeft d 0 [(0, .ref 207), (1, .int v1)] [] M P) : pg_Ev S Λ YX11_roomLeft d [.ref 207, .int v1] M P := pg_Ev.of (by decide) (by first | decide | exact Nat.le_of_ble_eq_true rfl) h
theorem sX11_windOf_0 {v1 : Int32} {v2 : Int32} 
    (h0 : pg_isX11 Λ)
    (b0 : ¬ (M.1 213 (2 : Int32).toNatClampNeg) = 0)
    (b1 : vp_in (76 + (v1 - v1 / (M.1 213 (2 : Int32).toNatClampNeg) * (M.1 213 (2 : Int32).toNatClampNeg))) 200)
    (k0 : (v2 = 0) → P (some (.int ((M.1 213 (76 + (v1 - v1 / (M.1 213 (2 : Int32).toNatClampNeg) * (M.1 213 (2 : Int32).toNatClampNeg))).toNatClampNeg) + 0))) M)
    (k1 : (¬ v2 = 0) → P (some (.int ((M.1 213 (76 + (v1 - v1 / (M.1 213 (2 : Int32).toNatClampNeg) * (M.1 213 (2 : Int32).toNatClampNeg))).toNatClampNeg) + 3))) M) :
    pg_At S Λ YX11_windOf d 0 [(0, .ref 207), (1, .int v1), (2, .int v2)] [] M P := by
  refine pg_aload_n (pc := 0) (i := 0) (j := 0) (x := 207) dX11_windOf_0 rfl rfl ?_
  refine gfX11_89 (pc := 1) rfl h0 dX11_windOf_1 ?_
  refine pg_bipush (pc := 4) (v := 76) dX11_windOf_4 (by decide) ?_
  refine pg_iload_n (pc := 6) (i := 1) (j := 1) (x := v1) dX11_windOf_6 rfl rfl ?_
  refine pg_aload_n (pc := 7) (i := 0) (j := 0) (x := 207) dX11_windOf_7 rfl rfl ?_
  refine gfX11_89 (pc := 8) rfl h0 dX11_windOf_8 ?_
  refine pg_iconst (pc := 11) (v := 2) dX11_windOf_11 (by decide) ?_
  refine pg_iald (pc := 12) h0.2.2.2.2.2.2.1 (by unfold vp_in; decide) dX11_windOf_12 ?_
  refine pg_irem (pc := 13) dX11_windOf_13 b0 ?_
  refine pg_iadd (pc := 14) dX11_windOf_14 ?_
  refine pg_iald (pc := 15) h0.2.2.2.2.2.2.1 b1 dX11_windOf_15 ?_
  refine pg_iload_n (pc := 16) (i := 2) (j := 2) (x := v2) dX11_windOf_16 rfl rfl ?_
  refine pg_if_eq (pc := 17) (tgt := 24) dX11_windOf_17 (by decide) (fun c0 => ?_) (fun c0 => ?_)
  · skip
    refine pg_iconst (pc := 24) (v := 0) dX11_windOf_24 (by decide) ?_
    refine pg_iadd (pc := 25) dX11_windOf_25 ?_
    exact pg_iret (pc := 26) rfl dX11_windOf_26 (k0 c0)
  · skip
    refine pg_iconst (pc := 20) (v := 3) dX11_windOf_20 (by decide) ?_
    refine pg_goto (pc := 21) (tgt := 25) dX11_windOf_21 (by decide) ?_
    refine pg_iadd (pc := 25) dX11_windOf_25 ?_
    exact pg_iret (pc := 26) rfl dX11_windOf_26 (k1 c0)
theorem oX11_windOf {d : Nat} {v1 : Int32} {v2 : Int32} (h : pg_At S Λ YX11_windOf d 0 [(0, .ref 207), (1, .int v1), (2, .int v2)] [] M P) : pg_Ev S Λ YX11_windOf d [.ref 207, .int v1, .int v2] M P := pg_Ev.of (by decide) (by first | decide | exact Nat.le_of_ble_eq_true rfl) h
theorem sX11_laysFacts_0 {v1 : Int32} {v2 : Int32} {v3 : Int32} {Q0 : Int32 → pg_M → Prop} {Q1 : Int32 → pg_M → Prop} {Q2 : Int32 → pg_M → Prop} {Q3 : Int32 → pg_M → Prop}
    (h0 : pg_isX11 Λ)
    (e0 : pg_Ev S Λ YX11_clothOf d [.ref 207, .int v1, .int 2] (pg_si M 219 (0 : Int32).toNatClampNeg v3) (fun r M' => ∃ x, r = some (.int x) ∧ Q0 x M'))
    (e1 : ∀ x1 M1, Q0 x1 M1 → pg_Ev S Λ YX11_clothOf d [.ref 207, .int v1, .int 0] M1 (fun r M' => ∃ x, r = some (.int x) ∧ Q1 x M'))
    (e2 : ∀ x1 M1, Q0 x1 M1 → ∀ x2 M2, Q1 x2 M2 → (¬ x2 = 3) → pg_Ev S Λ YX11_clothOf d [.ref 207, .int v1, .int 1] (pg_si M2 219 (1 : Int32).toNatClampNeg (x1 + v2)) (fun r M' => ∃ x, r = some (.int x) ∧ Q2 x M'))
    (k0 : ∀ x1 M1, Q0 x1 M1 → ∀ x2 M2, Q1 x2 M2 → (¬ x2 = 3) → ∀ x3 M3, Q2 x3 M3 → P none (pg_si M3 219 (2 : Int32).toNatClampNeg x3))
    (e3 : ∀ x1 M1, Q0 x1 M1 → ∀ x2 M2, Q1 x2 M2 → (x2 = 3) → pg_Ev S Λ YX11_clothOf d [.ref 207, .int v1, .int 1] (pg_si M2 219 (1 : Int32).toNatClampNeg (x1 + (2 * v2))) (fun r M' => ∃ x, r = some (.int x) ∧ Q3 x M'))
    (k1 : ∀ x1 M1, Q0 x1 M1 → ∀ x2 M2, Q1 x2 M2 → (x2 = 3) → ∀ x4 M4, Q3 x4 M4 → P none (pg_si M4 219 (2 : Int32).toNatClampNeg x4)) :
    pg_At S Λ YX11_laysFacts (d + 1) 0 [(0, .ref 207), (1, .int v1), (2, .int v2), (3, .int v3)] [] M P := by
  refine pg_aload_n (pc := 0) (i := 0) (j := 0) (x := 207) dX11_laysFacts_0 rfl rfl ?_
  refine gfX11_107 (pc := 1) rfl h0 dX11_laysFacts_1 ?_
  refine pg_iconst (pc := 4) (v := 0) dX11_laysFacts_4 (by decide) ?_
  refine pg_iload_n (pc := 5) (i := 3) (j := 3) (x := v3) dX11_laysFacts_5 rfl rfl ?_
  refine pg_iast (pc := 6) h0.2.2.2.2.2.2.2.2.2.2.2.2.1 (by unfold vp_in; decide) dX11_laysFacts_6 ?_
  refine pg_aload_n (pc := 7) (i := 0) (j := 0) (x := 207) dX11_laysFacts_7 rfl rfl ?_
  refine gfX11_107 (pc := 8) rfl h0 dX11_laysFacts_8 ?_
  refine pg_iconst (pc := 11) (v := 1) dX11_laysFacts_11 (by decide) ?_
  refine pg_aload_n (pc := 12) (i := 0) (j := 0) (x := 207) dX11_laysFacts_12 rfl rfl ?_
  refine pg_iload_n (pc := 13) (i := 1) (j := 1) (x := v1) dX11_laysFacts_13 rfl rfl ?_
  refine pg_iconst (pc := 14) (v := 2) dX11_laysFacts_14 (by decide) ?_
  refine pg_callV (pc := 15) (As := [.int v1, .int 2]) (st := [.int 1, .ref 219]) okX11_clothOf lkX11_295 rfl h0.1 rfl (Nat.le_refl _) (Nat.le_of_ble_eq_true rfl) e0 dX11_laysFacts_15 (fun r1 M1 w1 => ?_)
  obtain ⟨x1, rfl, w1⟩ := w1
  refine pg_aload_n (pc := 18) (i := 0) (j := 0) (x := 207) dX11_laysFacts_18 rfl rfl ?_
  refine pg_iload_n (pc := 19) (i := 1) (j := 1) (x := v1) dX11_laysFacts_19 rfl rfl ?_
  refine pg_iconst (pc := 20) (v := 0) dX11_laysFacts_20 (by decide) ?_
  refine pg_callV (pc := 21) (As := [.int v1, .int 0]) (st := [.int x1, .int 1, .ref 219]) okX11_clothOf lkX11_295 rfl h0.1 rfl (Nat.le_refl _) (Nat.le_of_ble_eq_true rfl) (e1 x1 M1 w1) dX11_laysFacts_21 (fun r2 M2 w2 => ?_)
  obtain ⟨x2, rfl, w2⟩ := w2
  refine pg_iconst (pc := 24) (v := 3) dX11_laysFacts_24 (by decide) ?_
  refine pg_icmp_ne (pc := 25) (tgt := 34) dX11_laysFacts_25 (by decide) (fun c0 => ?_) (fun c0 => ?_)
  · skip
    refine pg_iload_n (pc := 34) (i := 2) (j := 2) (x := v2) dX11_laysFacts_34 rfl rfl ?_
    refine pg_iadd (pc := 35) dX11_laysFacts_35 ?_
    refine pg_iast (pc := 36) h0.2.2.2.2.2.2.2.2.2.2.2.2.1 (by unfold vp_in; decide) dX11_laysFacts_36 ?_
    refine pg_aload_n (pc := 37) (i := 0) (j := 0) (x := 207) dX11_laysFacts_37 rfl rfl ?_
    refine gfX11_107 (pc := 38) rfl h0 dX11_laysFacts_38 ?_
    refine pg_iconst (pc := 41) (v := 2) dX11_laysFacts_41 (by decide) ?_
    refine pg_aload_n (pc := 42) (i := 0) (j := 0) (x := 207) dX11_laysFacts_42 rfl rfl ?_
    refine pg_iload_n (pc := 43) (i := 1) (j := 1) (x := v1) dX11_laysFacts_43 rfl rfl ?_
    refine pg_iconst (pc := 44) (v := 1) dX11_laysFacts_44 (by decide) ?_
    refine pg_callV (pc := 45) (As := [.int v1, .int 1]) (st := [.int 2, .ref 219]) okX11_clothOf lkX11_295 rfl h0.1 rfl (Nat.le_refl _) (Nat.le_of_ble_eq_true rfl) (e2 x1 M1 w1 x2 M2 w2 c0) dX11_laysFacts_45 (fun r3 M3 w3 => ?_)
    obtain ⟨x3, rfl, w3⟩ := w3
    refine pg_iast (pc := 48) h0.2.2.2.2.2.2.2.2.2.2.2.2.1 (by unfold vp_in; decide) dX11_laysFacts_48 ?_
    exact pg_vret (pc := 49) rfl dX11_laysFacts_49 (k0 x1 M1 w1 x2 M2 w2 c0 x3 M3 w3)
  · skip
    refine pg_iconst (pc := 28) (v := 2) dX11_laysFacts_28 (by decide) ?_
    refine pg_iload_n (pc := 29) (i := 2) (j := 2) (x := v2) dX11_laysFacts_29 rfl rfl ?_
    refine pg_imul (pc := 30) dX11_laysFacts_30 ?_
    refine pg_goto (pc := 31) (tgt := 35) dX11_laysFacts_31 (by decide) ?_
    refine pg_iadd (pc := 35) dX11_laysFacts_35 ?_
    refine pg_iast (pc := 36) h0.2.2.2.2.2.2.2.2.2.2.2.2.1 (by unfold vp_in; decide) dX11_laysFacts_36 ?_
    refine pg_aload_n (pc := 37) (i := 0) (j := 0) (x := 207) dX11_laysFacts_37 rfl rfl ?_
    refine gfX11_107 (pc := 38) rfl h0 dX11_laysFacts_38 ?_
    refine pg_iconst (pc := 41) (v := 2) dX11_laysFacts_41 (by decide) ?_
    refine pg_aload_n (pc := 42) (i := 0) (j := 0) (x := 207) dX11_laysFacts_42 rfl rfl ?_
    refine pg_iload_n (pc := 43) (i := 1) (j := 1) (x := v1) dX11_laysFacts_43 rfl rfl ?_
    refine pg_iconst (pc := 44) (v := 1) dX11_laysFacts_44 (by decide) ?_
    refine pg_callV (pc := 45) (As := [.int v1, .int 1]) (st := [.int 2, .ref 219]) okX11_clothOf lkX11_295 rfl h0.1 rfl (Nat.le_refl _) (Nat.le_of_ble_eq_true rfl) (e3 x1 M1 w1 x2 M2 w2 c0) dX11_laysFacts_45 (fun r4 M4 w4 => ?_)
    obtain ⟨x4, rfl, w4⟩ := w4
    refine pg_iast (pc := 48) h0.2.2.2.2.2.2.2.2.2.2.2.2.1 (by unfold vp_in; decide) dX11_laysFacts_48 ?_
    exact pg_vret (pc := 49) rfl dX11_laysFacts_49 (k1 x1 M1 w1 x2 M2 w2 c0 x4 M4 w4)
theorem oX11_laysFacts {d : Nat} {v1 : Int32} {v2 : Int32} {v3 : Int32} (h : pg_At S Λ YX11_laysFacts d 0 [(0, .ref 207), (1, .int v1), (2, .int v2), (3, .int v3)] [] M P) : pg_Ev S Λ YX11_laysFacts d [.ref 207, .int v1, .int v2, .int v3] M P := pg_Ev.of (by decide) (by first | decide | exact Nat.le_of_ble_eq_true rfl) h

end PGS

