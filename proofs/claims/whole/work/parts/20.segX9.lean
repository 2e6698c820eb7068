section PGS
variable {S : pg_S} {Λ : pg_L} {d : Nat} {M : pg_M} {P : Option Value → pg_M → Prop}

theorem sX9_begin_0 {v0 : Nat} {v1 : Nat} 
    (h0 : pg_isX9 Λ v0)
    (h1 : pg_isX5 Λ v1)
    (k0 : ∀ N1, N1 = pg_sa (pg_sa M (v0 + 1) (fun j => if j < 6 then 0 else M.1 (v0 + 1) j)) (v0 + 2) (fun j => if j < 6 then 0 else (pg_sa M (v0 + 1) (fun j => if j < 6 then 0 else M.1 (v0 + 1) j)).1 (v0 + 2) j) → ∀ N2, N2 = pg_sa (pg_sa N1 (v0 + 3) (fun j => if j < 6 then 0 else N1.1 (v0 + 3) j)) (v0 + 4) (va_cpy ((pg_sa N1 (v0 + 3) (fun j => if j < 6 then 0 else N1.1 (v0 + 3) j)).1 (v1 + 7)) ((pg_sa N1 (v0 + 3) (fun j => if j < 6 then 0 else N1.1 (v0 + 3) j)).1 (v0 + 4)) (0 : Int32).toNatClampNeg (0 : Int32).toNatClampNeg (8 : Int32).toNatClampNeg) → P none (pg_si (pg_si N2 v0 4 (N2.1 v1 11)) v0 5 0)) :
    pg_At S Λ YX9_begin (d + 1) 0 [(0, .ref v0), (1, .ref v1)] [] M P := by
  refine pg_aload_n (pc := 0) (i := 0) (j := 0) (x := v0) dX9_begin_0 rfl rfl ?_
  refine gfX9_9 (pc := 1) rfl h0 dX9_begin_1 ?_
  refine pg_iconst (pc := 4) (v := 0) dX9_begin_4 (by decide) ?_
  refine pg_jfill (pc := 5) (st := []) lkX9_24 (Nat.le_of_ble_eq_true rfl) h0.2.1 (by decide) dX9_begin_5 ?_
  refine pg_aload_n (pc := 8) (i := 0) (j := 0) (x := v0) dX9_begin_8 rfl rfl ?_
  refine gfX9_15 (pc := 9) rfl h0 dX9_begin_9 ?_
  refine pg_iconst (pc := 12) (v := 0) dX9_begin_12 (by decide) ?_
  refine pg_jfill (pc := 13) (st := []) lkX9_24 (Nat.le_of_ble_eq_true rfl) h0.2.2.1 (by decide) dX9_begin_13 ?_
  refine pg_named (fun N1 u1 => ?_)
  refine pg_aload_n (pc := 16) (i := 0) (j := 0) (x := v0) dX9_begin_16 rfl rfl ?_
  refine gfX9_18 (pc := 17) rfl h0 dX9_begin_17 ?_
  refine pg_iconst (pc := 20) (v := 0) dX9_begin_20 (by decide) ?_
  refine pg_jfill (pc := 21) (st := []) lkX9_24 (Nat.le_of_ble_eq_true rfl) h0.2.2.2.1 (by decide) dX9_begin_21 ?_
  refine pg_aload_n (pc := 24) (i := 1) (j := 1) (x := v1) dX9_begin_24 rfl rfl ?_
  refine gfX9_30 (pc := 25) rfl h1 dX9_begin_25 ?_
  refine pg_iconst (pc := 28) (v := 0) dX9_begin_28 (by decide) ?_
  refine pg_aload_n (pc := 29) (i := 0) (j := 0) (x := v0) dX9_begin_29 rfl rfl ?_
  refine gfX9_21 (pc := 30) rfl h0 dX9_begin_30 ?_
  refine pg_iconst (pc := 33) (v := 0) dX9_begin_33 (by decide) ?_
  refine pg_bipush (pc := 34) (v := 8) dX9_begin_34 (by decide) ?_
  refine pg_copyi (pc := 36) (st := []) lkX9_33 (Nat.le_of_ble_eq_true rfl) h1.2.2.2.2.2.2.2.1 h0.2.2.2.2 (by decide) (by decide) (by decide) (by decide) (by decide) dX9_begin_36 ?_
  refine pg_named (fun N2 u2 => ?_)
  refine pg_aload_n (pc := 39) (i := 0) (j := 0) (x := v0) dX9_begin_39 rfl rfl ?_
  refine pg_aload_n (pc := 40) (i := 1) (j := 1) (x := v1) dX9_begin_40 rfl rfl ?_
  refine gfX9_39 (pc := 41) rfl h1 dX9_begin_41 ?_
  refine pfX9_43 (pc := 44) rfl h0 dX9_begin_44 ?_
  refine pg_aload_n (pc := 47) (i := 0) (j := 0) (x := v0) dX9_begin_47 rfl rfl ?_
  refine pg_iconst (pc := 48) (v := 0) dX9_begin_48 (by decide) ?_
  refine pfX9_44 (pc := 49) rfl h0 dX9_begin_49 ?_
  exact pg_vret (pc := 52) rfl dX9_begin_52 (k0 N1 u1 N2 u2)
theorem oX9_begin {d : Nat} {v0 : Nat} {v1 : Nat} (h : pg_At S Λ YX9_begin d 0 [(0, .ref v0), (1, .ref v1)] [] M P) : pg_Ev S Λ YX9_begin d [.ref v0, .ref v1] M P := pg_Ev.of (by decide) (by first | decide | exact Nat.le_of_ble_eq_true rfl) h
theorem sX9_copyFrom_0 {v0 : Nat} {v1 : Nat} 
    (h0 : pg_isX9 Λ v1)
    (h1 : pg_isX9 Λ v0)
    (k0 : ∀ N1, N1 = pg_sa M (v0 + 1) (va_cpy (M.1 (v1 + 1)) (M.1 (v0 + 1)) (0 : Int32).toNatClampNeg (0 : Int32).toNatClampNeg (6 : Int32).toNatClampNeg) → ∀ N2, N2 = pg_sa N1 (v0 + 2) (va_cpy (N1.1 (v1 + 2)) (N1.1 (v0 + 2)) (0 : Int32).toNatClampNeg (0 : Int32).toNatClampNeg (6 : Int32).toNatClampNeg) → ∀ N3, N3 = pg_sa N2 (v0 + 3) (va_cpy (N2.1 (v1 + 3)) (N2.1 (v0 + 3)) (0 : Int32).toNatClampNeg (0 : Int32).toNatClampNeg (6 : Int32).toNatClampNeg) → ∀ N4, N4 = pg_sa N3 (v0 + 4) (va_cpy (N3.1 (v1 + 4)) (N3.1 (v0 + 4)) (0 : Int32).toNatClampNeg (0 : Int32).toNatClampNeg (8 : Int32).toNatClampNeg) → P none (pg_si (pg_si N4 v0 4 (N4.1 v1 4)) v0 5 ((pg_si N4 v0 4 (N4.1 v1 4)).1 v1 5))) :
    pg_At S Λ YX9_copyFrom (d + 1) 0 [(0, .ref v0), (1, .ref v1)] [] M P := by
  refine pg_aload_n (pc := 0) (i := 1) (j := 1) (x := v1) dX9_copyFrom_0 rfl rfl ?_
  refine gfX9_9 (pc := 1) rfl h0 dX9_copyFrom_1 ?_
  refine pg_iconst (pc := 4) (v := 0) dX9_copyFrom_4 (by decide) ?_
  refine pg_aload_n (pc := 5) (i := 0) (j := 0) (x := v0) dX9_copyFrom_5 rfl rfl ?_
  refine gfX9_9 (pc := 6) rfl h1 dX9_copyFrom_6 ?_
  refine pg_iconst (pc := 9) (v := 0) dX9_copyFrom_9 (by decide) ?_
  refine pg_bipush (pc := 10) (v := 6) dX9_copyFrom_10 (by decide) ?_
  refine pg_copyi (pc := 12) (st := []) lkX9_33 (Nat.le_of_ble_eq_true rfl) h0.2.1 h1.2.1 (by decide) (by decide) (by decide) (by decide) (by decide) dX9_copyFrom_12 ?_
  refine pg_named (fun N1 u1 => ?_)
  refine pg_aload_n (pc := 15) (i := 1) (j := 1) (x := v1) dX9_copyFrom_15 rfl rfl ?_
  refine gfX9_15 (pc := 16) rfl h0 dX9_copyFrom_16 ?_
  refine pg_iconst (pc := 19) (v := 0) dX9_copyFrom_19 (by decide) ?_
  refine pg_aload_n (pc := 20) (i := 0) (j := 0) (x := v0) dX9_copyFrom_20 rfl rfl ?_
  refine gfX9_15 (pc := 21) rfl h1 dX9_copyFrom_21 ?_
  refine pg_iconst (pc := 24) (v := 0) dX9_copyFrom_24 (by decide) ?_
  refine pg_bipush (pc := 25) (v := 6) dX9_copyFrom_25 (by decide) ?_
  refine pg_copyi (pc := 27) (st := []) lkX9_33 (Nat.le_of_ble_eq_true rfl) h0.2.2.1 h1.2.2.1 (by decide) (by decide) (by decide) (by decide) (by decide) dX9_copyFrom_27 ?_
  refine pg_named (fun N2 u2 => ?_)
  refine pg_aload_n (pc := 30) (i := 1) (j := 1) (x := v1) dX9_copyFrom_30 rfl rfl ?_
  refine gfX9_18 (pc := 31) rfl h0 dX9_copyFrom_31 ?_
  refine pg_iconst (pc := 34) (v := 0) dX9_copyFrom_34 (by decide) ?_
  refine pg_aload_n (pc := 35) (i := 0) (j := 0) (x := v0) dX9_copyFrom_35 rfl rfl ?_
  refine gfX9_18 (pc := 36) rfl h1 dX9_copyFrom_36 ?_
  refine pg_iconst (pc := 39) (v := 0) dX9_copyFrom_39 (by decide) ?_
  refine pg_bipush (pc := 40) (v := 6) dX9_copyFrom_40 (by decide) ?_
  refine pg_copyi (pc := 42) (st := []) lkX9_33 (Nat.le_of_ble_eq_true rfl) h0.2.2.2.1 h1.2.2.2.1 (by decide) (by decide) (by decide) (by decide) (by decide) dX9_copyFrom_42 ?_
  refine pg_named (fun N3 u3 => ?_)
  refine pg_aload_n (pc := 45) (i := 1) (j := 1) (x := v1) dX9_copyFrom_45 rfl rfl ?_
  refine gfX9_21 (pc := 46) rfl h0 dX9_copyFrom_46 ?_
  refine pg_iconst (pc := 49) (v := 0) dX9_copyFrom_49 (by decide) ?_
  refine pg_aload_n (pc := 50) (i := 0) (j := 0) (x := v0) dX9_copyFrom_50 rfl rfl ?_
  refine gfX9_21 (pc := 51) rfl h1 dX9_copyFrom_51 ?_
  refine pg_iconst (pc := 54) (v := 0) dX9_copyFrom_54 (by decide) ?_
  refine pg_bipush (pc := 55) (v := 8) dX9_copyFrom_55 (by decide) ?_
  refine pg_copyi (pc := 57) (st := []) lkX9_33 (Nat.le_of_ble_eq_true rfl) h0.2.2.2.2 h1.2.2.2.2 (by decide) (by decide) (by decide) (by decide) (by decide) dX9_copyFrom_57 ?_
  refine pg_named (fun N4 u4 => ?_)
  refine pg_aload_n (pc := 60) (i := 0) (j := 0) (x := v0) dX9_copyFrom_60 rfl rfl ?_
  refine pg_aload_n (pc := 61) (i := 1) (j := 1) (x := v1) dX9_copyFrom_61 rfl rfl ?_
  refine gfX9_43 (pc := 62) rfl h0 dX9_copyFrom_62 ?_
  refine pfX9_43 (pc := 65) rfl h1 dX9_copyFrom_65 ?_
  refine pg_aload_n (pc := 68) (i := 0) (j := 0) (x := v0) dX9_copyFrom_68 rfl rfl ?_
  refine pg_aload_n (pc := 69) (i := 1) (j := 1) (x := v1) dX9_copyFrom_69 rfl rfl ?_
  refine gfX9_44 (pc := 70) rfl h0 dX9_copyFrom_70 ?_
  refine pfX9_44 (pc := 73) rfl h1 dX9_copyFrom_73 ?_
  exact pg_vret (pc := 76) rfl dX9_copyFrom_76 (k0 N1 u1 N2 u2 N3 u3 N4 u4)
theorem oX9_copyFrom {d : Nat} {v0 : Nat} {v1 : Nat} (h : pg_At S Λ YX9_copyFrom d 0 [(0, .ref v0), (1, .ref v1)] [] M P) : pg_Ev S Λ YX9_copyFrom d [.ref v0, .ref v1] M P := pg_Ev.of (by decide) (by first | decide | exact Nat.le_of_ble_eq_true rfl) h
theorem sX9_isLaw_0 {v0 : Nat} {v1 : Nat} {v2 : Int32} {Q0 : Int32 → pg_M → Prop}
    (h0 : pg_isX9 Λ v0)
    (h1 : pg_isX5 Λ v1)
    (b0 : vp_in v2 6)
    (e0 : pg_Ev S Λ YX5_pegsFor d [.ref v1, .int v2] M (fun r M' => ∃ x, r = some (.int x) ∧ Q0 x M'))
    (k0 : ∀ x1 M1, Q0 x1 M1 → (¬ (pg_bc (M.1 (v0 + 3) v2.toNatClampNeg)) = x1) → P (some (.int 0)) M1)
    (k1 : ∀ x1 M1, Q0 x1 M1 → ((pg_bc (M.1 (v0 + 3) v2.toNatClampNeg)) = x1) → (3 ≤ (M1.1 (v0 + 2) v2.toNatClampNeg)) → P (some (.int 0)) M1)
    (k2 : ∀ x1 M1, Q0 x1 M1 → ((pg_bc (M.1 (v0 + 3) v2.toNatClampNeg)) = x1) → (¬ 3 ≤ (M1.1 (v0 + 2) v2.toNatClampNeg)) → P (some (.int 1)) M1) :
    pg_At S Λ YX9_isLaw (d + 1) 0 [(0, .ref v0), (1, .ref v1), (2, .int v2)] [] M P := by
  refine pg_aload_n (pc := 0) (i := 0) (j := 0) (x := v0) dX9_isLaw_0 rfl rfl ?_
  refine gfX9_18 (pc := 1) rfl h0 dX9_isLaw_1 ?_
  refine pg_iload_n (pc := 4) (i := 2) (j := 2) (x := v2) dX9_isLaw_4 rfl rfl ?_
  refine pg_iald (pc := 5) h0.2.2.2.1 b0 dX9_isLaw_5 ?_
  refine pg_jbc (pc := 6) (st := []) lkX9_47 (Nat.le_of_ble_eq_true rfl) dX9_isLaw_6 ?_
  refine pg_aload_n (pc := 9) (i := 1) (j := 1) (x := v1) dX9_isLaw_9 rfl rfl ?_
  refine pg_iload_n (pc := 10) (i := 2) (j := 2) (x := v2) dX9_isLaw_10 rfl rfl ?_
  refine pg_callV (pc := 11) (As := [.int v2]) (st := [.int (pg_bc (M.1 (v0 + 3) v2.toNatClampNeg))]) okX5_pegsFor lkX9_53 rfl h1.1 rfl (Nat.le_refl _) (Nat.le_of_ble_eq_true rfl) e0 dX9_isLaw_11 (fun r1 M1 w1 => ?_)
  obtain ⟨x1, rfl, w1⟩ := w1
  refine pg_icmp_ne (pc := 14) (tgt := 31) dX9_isLaw_14 (by decide) (fun c0 => ?_) (fun c0 => ?_)
  · skip
    refine pg_iconst (pc := 31) (v := 0) dX9_isLaw_31 (by decide) ?_
    exact pg_zret (pc := 32) rfl rfl dX9_isLaw_32 (k0 x1 M1 w1 c0)
  · skip
    refine pg_aload_n (pc := 17) (i := 0) (j := 0) (x := v0) dX9_isLaw_17 rfl rfl ?_
    refine gfX9_15 (pc := 18) rfl h0 dX9_isLaw_18 ?_
    refine pg_iload_n (pc := 21) (i := 2) (j := 2) (x := v2) dX9_isLaw_21 rfl rfl ?_
    refine pg_iald (pc := 22) h0.2.2.1 b0 dX9_isLaw_22 ?_
    refine pg_iconst (pc := 23) (v := 3) dX9_isLaw_23 (by decide) ?_
    refine pg_icmp_ge (pc := 24) (tgt := 31) dX9_isLaw_24 (by decide) (fun c1 => ?_) (fun c1 => ?_)
    · skip
      refine pg_iconst (pc := 31) (v := 0) dX9_isLaw_31 (by decide) ?_
      exact pg_zret (pc := 32) rfl rfl dX9_isLaw_32 (k1 x1 M1 w1 c0 c1)
    · skip
      refine pg_iconst (pc := 27) (v := 1) dX9_isLaw_27 (by decide) ?_
      refine pg_goto (pc := 28) (tgt := 32) dX9_isLaw_28 (by decide) ?_
      exact pg_zret (pc := 32) rfl rfl dX9_isLaw_32 (k2 x1 M1 w1 c0 c1)
theorem oX9_isLaw {d : Nat} {v0 : Nat} {v1 : Nat} {v2 : Int32} (h : pg_At S Λ YX9_isLaw d 0 [(0, .ref v0), (1, .ref v1), (2, .int v2)] [] M P) : pg_Ev S Λ YX9_isLaw d [.ref v0, .ref v1, .int v2] M P := pg_Ev.of (by decide) (by first | decide | exact Nat.le_of_ble_eq_true rfl) h
theorem sX9_isTurned_0 {v0 : Nat} {v1 : Int32} 
    (h0 : pg_isX9 Λ v0)
    (b0 : vp_in v1 6)
    (k0 : (¬ (pg_bc (M.1 (v0 + 3) v1.toNatClampNeg)) = 1) → P (some (.int 0)) M)
    (k1 : ((pg_bc (M.1 (v0 + 3) v1.toNatClampNeg)) = 1) → P (some (.int 1)) M) :
    pg_At S Λ YX9_isTurned (d + 1) 0 [(0, .ref v0), (1, .int v1)] [] M P := by
  refine pg_aload_n (pc := 0) (i := 0) (j := 0) (x := v0) dX9_isTurned_0 rfl rfl ?_
  refine gfX9_18 (pc := 1) rfl h0 dX9_isTurned_1 ?_
  refine pg_iload_n (pc := 4) (i := 1) (j := 1) (x := v1) dX9_isTurned_4 rfl rfl ?_
  refine pg_iald (pc := 5) h0.2.2.2.1 b0 dX9_isTurned_5 ?_
  refine pg_jbc (pc := 6) (st := []) lkX9_47 (Nat.le_of_ble_eq_true rfl) dX9_isTurned_6 ?_
  refine pg_iconst (pc := 9) (v := 1) dX9_isTurned_9 (by decide) ?_
  refine pg_icmp_ne (pc := 10) (tgt := 17) dX9_isTurned_10 (by decide) (fun c0 => ?_) (fun c0 => ?_)
  · skip
    refine pg_iconst (pc := 17) (v := 0) dX9_isTurned_17 (by decide) ?_
    exact pg_zret (pc := 18) rfl rfl dX9_isTurned_18 (k0 c0)
  · skip
    refine pg_iconst (pc := 13) (v := 1) dX9_isTurned_13 (by decide) ?_
    refine pg_goto (pc := 14) (tgt := 18) dX9_isTurned_14 (by decide) ?_
    exact pg_zret (pc := 18) rfl rfl dX9_isTurned_18 (k1 c0)
theorem oX9_isTurned {d : Nat} {v0 : Nat} {v1 : Int32} (h : pg_At S Λ YX9_isTurned d 0 [(0, .ref v0), (1, .int v1)] [] M P) : pg_Ev S Λ YX9_isTurned d [.ref v0, .int v1] M P := pg_Ev.of (by decide) (by first | decide | exact Nat.le_of_ble_eq_true rfl) h
theorem sX9_lawBits_0 {v0 : Nat} {v1 : Nat} 
    (k0 : pg_At S Λ YX9_lawBits (d + 1) 4 [(0, .ref v0), (1, .ref v1), (2, .int 0), (3, .int 0)] [] M P) :
    pg_At S Λ YX9_lawBits (d + 1) 0 [(0, .ref v0), (1, .ref v1)] [] M P := by
  refine pg_iconst (pc := 0) (v := 0) dX9_lawBits_0 (by decide) ?_
  refine pg_istore_n (pc := 1) (i := 2) (ls' := [(2, .int 0), (0, .ref v0), (1, .ref v1)]) dX9_lawBits_1 rfl (by decide) rfl ?_
  refine pg_iconst (pc := 2) (v := 0) dX9_lawBits_2 (by decide) ?_
  refine pg_istore_n (pc := 3) (i := 3) (ls' := [(3, .int 0), (2, .int 0), (0, .ref v0), (1, .ref v1)]) dX9_lawBits_3 rfl (by decide) rfl ?_
  refine pg_drop (ks := [2, 3, 1, 0]) (ls' := [(0, .ref v0), (1, .ref v1), (2, .int 0), (3, .int 0)]) rfl ?_
  exact k0
theorem sX9_lawBits_4 {v0 : Nat} {v1 : Nat} {v2 : Int32} {v3 : Int32} {Q0 : Int32 → pg_M → Prop}
    (h0 : pg_isX5 Λ v1)
    (h1 : pg_isX9 Λ v0)
    (k0 : ((M.1 v1 10) ≤ v3) → P (some (.int v2)) M)
    (e0 : (¬ (M.1 v1 10) ≤ v3) → pg_Ev S Λ YX9_isLaw d [.ref v0, .ref v1, .int v3] M (fun r M' => ∃ x, r = some (.int x) ∧ Q0 x M'))
    (k1 : (¬ (M.1 v1 10) ≤ v3) → ∀ x1 M1, Q0 x1 M1 → (x1 = 0) → pg_At S Λ YX9_lawBits (d + 1) 4 [(0, .ref v0), (1, .ref v1), (2, .int v2), (3, .int (v3 + 1))] [] M1 P)
    (k2 : (¬ (M.1 v1 10) ≤ v3) → ∀ x1 M1, Q0 x1 M1 → (¬ x1 = 0) → pg_At S Λ YX9_lawBits (d + 1) 4 [(0, .ref v0), (1, .ref v1), (2, .int (v2 ||| ((1 : Int32) <<< (v3 &&& 31)))), (3, .int (v3 + 1))] [] M1 P) :
    pg_At S Λ YX9_lawBits (d + 1) 4 [(0, .ref v0), (1, .ref v1), (2, .int v2), (3, .int v3)] [] M P := by
  refine pg_iload_n (pc := 4) (i := 3) (j := 3) (x := v3) dX9_lawBits_4 rfl rfl ?_
  refine pg_aload_n (pc := 5) (i := 1) (j := 1) (x := v1) dX9_lawBits_5 rfl rfl ?_
  refine gfX9_56 (pc := 6) rfl h0 dX9_lawBits_6 ?_
  refine pg_icmp_ge (pc := 9) (tgt := 33) dX9_lawBits_9 (by decide) (fun c0 => ?_) (fun c0 => ?_)
  · skip
    refine pg_iload_n (pc := 33) (i := 2) (j := 2) (x := v2) dX9_lawBits_33 rfl rfl ?_
    exact pg_iret (pc := 34) rfl dX9_lawBits_34 (k0 c0)
  · skip
    refine pg_aload_n (pc := 12) (i := 0) (j := 0) (x := v0) dX9_lawBits_12 rfl rfl ?_
    refine pg_aload_n (pc := 13) (i := 1) (j := 1) (x := v1) dX9_lawBits_13 rfl rfl ?_
    refine pg_iload_n (pc := 14) (i := 3) (j := 3) (x := v3) dX9_lawBits_14 rfl rfl ?_
    refine pg_callV (pc := 15) (As := [.ref v1, .int v3]) (st := []) okX9_isLaw lkX9_59 rfl h1.1 rfl (Nat.le_refl _) (Nat.le_of_ble_eq_true rfl) (e0 c0) dX9_lawBits_15 (fun r1 M1 w1 => ?_)
    obtain ⟨x1, rfl, w1⟩ := w1
    refine pg_if_eq (pc := 18) (tgt := 27) dX9_lawBits_18 (by decide) (fun c1 => ?_) (fun c1 => ?_)
    · skip
      refine pg_iinc (pc := 27) (i := 3) (j := 3) (x := v3) (v := v3 + 1) (ls' := [(3, .int (v3 + 1)), (0, .ref v0), (1, .ref v1), (2, .int v2)]) dX9_lawBits_27 rfl rfl (by decide) rfl ?_
      refine pg_goto (pc := 30) (tgt := 4) dX9_lawBits_30 (by decide) ?_
      refine pg_drop (ks := [1, 2, 3, 0]) (ls' := [(0, .ref v0), (1, .ref v1), (2, .int v2), (3, .int (v3 + 1))]) rfl ?_
      exact k1 c0 x1 M1 w1 c1
    · skip
      refine pg_iload_n (pc := 21) (i := 2) (j := 2) (x := v2) dX9_lawBits_21 rfl rfl ?_
      refine pg_iconst (pc := 22) (v := 1) dX9_lawBits_22 (by decide) ?_
      refine pg_iload_n (pc := 23) (i := 3) (j := 3) (x := v3) dX9_lawBits_23 rfl rfl ?_
      refine pg_ishl (pc := 24) dX9_lawBits_24 ?_
      refine pg_ior (pc := 25) dX9_lawBits_25 ?_
      refine pg_istore_n (pc := 26) (i := 2) (ls' := [(2, .int (v2 ||| ((1 : Int32) <<< (v3 &&& 31)))), (0, .ref v0), (1, .ref v1), (3, .int v3)]) dX9_lawBits_26 rfl (by decide) rfl ?_
      refine pg_iinc (pc := 27) (i := 3) (j := 3) (x := v3) (v := v3 + 1) (ls' := [(3, .int (v3 + 1)), (2, .int (v2 ||| ((1 : Int32) <<< (v3 &&& 31)))), (0, .ref v0), (1, .ref v1)]) dX9_lawBits_27 rfl rfl (by decide) rfl ?_
      refine pg_goto (pc := 30) (tgt := 4) dX9_lawBits_30 (by decide) ?_
      refine pg_drop (ks := [2, 3, 1, 0]) (ls' := [(0, .ref v0), (1, .ref v1), (2, .int (v2 ||| ((1 : Int32) <<< (v3 &&& 31)))), (3, .int (v3 + 1))]) rfl ?_
      exact k2 c0 x1 M1 w1 c1
theorem oX9_lawBits {d : Nat} {v0 : Nat} {v1 : Nat} (h : pg_At S Λ YX9_lawBits d 0 [(0, .ref v0), (1, .ref v1)] [] M P) : pg_Ev S Λ YX9_lawBits d [.ref v0, .ref v1] M P := pg_Ev.of (by decide) (by first | decide | exact Nat.le_of_ble_eq_true rfl) h
theorem sX9_turnedBits_0 {v0 : Nat} {v1 : Nat} 
    (k0 : pg_At S Λ YX9_turnedBits (d + 1) 4 [(0, .ref v0), (1, .ref v1), (2, .int 0), (3, .int 0)] [] M P) :
    pg_At S Λ YX9_turnedBits (d + 1) 0 [(0, .ref v0), (1, .ref v1)] [] M P := by
  refine pg_iconst (pc := 0) (v := 0) dX9_turnedBits_0 (by decide) ?_
  refine pg_istore_n (pc := 1) (i := 2) (ls' := [(2, .int 0), (0, .ref v0), (1, .ref v1)]) dX9_turnedBits_1 rfl (by decide) rfl ?_
  refine pg_iconst (pc := 2) (v := 0) dX9_turnedBits_2 (by decide) ?_
  refine pg_istore_n (pc := 3) (i := 3) (ls' := [(3, .int 0), (2, .int 0), (0, .ref v0), (1, .ref v1)]) dX9_turnedBits_3 rfl (by decide) rfl ?_
  refine pg_drop (ks := [2, 3, 1, 0]) (ls' := [(0, .ref v0), (1, .ref v1), (2, .int 0), (3, .int 0)]) rfl ?_
  exact k0
theorem sX9_turnedBits_4 {v0 : Nat} {v1 : Nat} {v2 : Int32} {v3 : Int32} {Q0 : Int32 → pg_M → Prop}
    (h0 : pg_isX5 Λ v1)
    (h1 : pg_isX9 Λ v0)
    (k0 : ((M.1 v1 10) ≤ v3) → P (some (.int v2)) M)
    (e0 : (¬ (M.1 v1 10) ≤ v3) → pg_Ev S Λ YX9_isTurned d [.ref v0, .int v3] M (fun r M' => ∃ x, r = some (.int x) ∧ Q0 x M'))
    (k1 : (¬ (M.1 v1 10) ≤ v3) → ∀ x1 M1, Q0 x1 M1 → (x1 = 0) → pg_At S Λ YX9_turnedBits (d + 1) 4 [(0, .ref v0), (1, .ref v1), (2, .int v2), (3, .int (v3 + 1))] [] M1 P)
    (k2 : (¬ (M.1 v1 10) ≤ v3) → ∀ x1 M1, Q0 x1 M1 → (¬ x1 = 0) → pg_At S Λ YX9_turnedBits (d + 1) 4 [(0, .ref v0), (1, .ref v1), (2, .int (v2 ||| ((1 : Int32) <<< (v3 &&& 31)))), (3, .int (v3 + 1))] [] M1 P) :
    pg_At S Λ YX9_turnedBits (d + 1) 4 [(0, .ref v0), (1, .ref v1), (2, .int v2), (3, .int v3)] [] M P := by
  refine pg_iload_n (pc := 4) (i := 3) (j := 3) (x := v3) dX9_turnedBits_4 rfl rfl ?_
  refine pg_aload_n (pc := 5) (i := 1) (j := 1) (x := v1) dX9_turnedBits_5 rfl rfl ?_
  refine gfX9_56 (pc := 6) rfl h0 dX9_turnedBits_6 ?_
  refine pg_icmp_ge (pc := 9) (tgt := 32) dX9_turnedBits_9 (by decide) (fun c0 => ?_) (fun c0 => ?_)
  · skip
    refine pg_iload_n (pc := 32) (i := 2) (j := 2) (x := v2) dX9_turnedBits_32 rfl rfl ?_
    exact pg_iret (pc := 33) rfl dX9_turnedBits_33 (k0 c0)
  · skip
    refine pg_aload_n (pc := 12) (i := 0) (j := 0) (x := v0) dX9_turnedBits_12 rfl rfl ?_
    refine pg_iload_n (pc := 13) (i := 3) (j := 3) (x := v3) dX9_turnedBits_13 rfl rfl ?_
    refine pg_callV (pc := 14) (As := [.int v3]) (st := []) okX9_isTurned lkX9_63 rfl h1.1 rfl (Nat.le_refl _) (Nat.le_of_ble_eq_true rfl) (e0 c0) dX9_turnedBits_14 (fun r1 M1 w1 => ?_)
    obtain ⟨x1, rfl, w1⟩ := w1
    refine pg_if_eq (pc := 17) (tgt := 26) dX9_turnedBits_17 (by decide) (fun c1 => ?_) (fun c1 => ?_)
    · skip
      refine pg_iinc (pc := 26) (i := 3) (j := 3) (x := v3) (v := v3 + 1) (ls' := [(3, .int (v3 + 1)), (0, .ref v0), (1, .ref v1), (2, .int v2)]) dX9_turnedBits_26 rfl rfl (by decide) rfl ?_
      refine pg_goto (pc := 29) (tgt := 4) dX9_turnedBits_29 (by decide) ?_
      refine pg_drop (ks := [1, 2, 3, 0]) (ls' := [(0, .ref v0), (1, .ref v1), (2, .int v2), (3, .int (v3 + 1))]) rfl ?_
      exact k1 c0 x1 M1 w1 c1
    · skip
      refine pg_iload_n (pc := 20) (i := 2) (j := 2) (x := v2) dX9_turnedBits_20 rfl rfl ?_
      refine pg_iconst (pc := 21) (v := 1) dX9_turnedBits_21 (by decide) ?_
      refine pg_iload_n (pc := 22) (i := 3) (j := 3) (x := v3) dX9_turnedBits_22 rfl rfl ?_
      refine pg_ishl (pc := 23) dX9_turnedBits_23 ?_
      refine pg_ior (pc := 24) dX9_turnedBits_24 ?_
      refine pg_istore_n (pc := 25) (i := 2) (ls' := [(2, .int (v2 ||| ((1 : Int32) <<< (v3 &&& 31)))), (0, .ref v0), (1, .ref v1), (3, .int v3)]) dX9_turnedBits_25 rfl (by decide) rfl ?_
      refine pg_iinc (pc := 26) (i := 3) (j := 3) (x := v3) (v := v3 + 1) (ls' := [(3, .int (v3 + 1)), (2, .int (v2 ||| ((1 : Int32) <<< (v3 &&& 31)))), (0, .ref v0), (1, .ref v1)]) dX9_turnedBits_26 rfl rfl (by decide) rfl ?_
      refine pg_goto (pc := 29) (tgt := 4) dX9_turnedBits_29 (by decide) ?_
      refine pg_drop (ks := [2, 3, 1, 0]) (ls' := [(0, .ref v0), (1, .ref v1), (2, .int (v2 ||| ((1 : Int32) <<< (v3 &&& 31)))), (3, .int (v3 + 1))]) rfl ?_
      exact k2 c0 x1 M1 w1 c1
theorem oX9_turnedBits {d : Nat} {v0 : Nat} {v1 : Nat} (h : pg_At S Λ YX9_turnedBits d 0 [(0, .ref v0), (1, .ref v1)] [] M P) : pg_Ev S Λ YX9_turnedBits d [.ref v0, .ref v1] M P := pg_Ev.of (by decide) (by first | decide | exact Nat.le_of_ble_eq_true rfl) h
theorem sX9_worthOfLaws_0 {v0 : Nat} {v1 : Nat} {Q0 : Int32 → pg_M → Prop} {Q1 : Int32 → pg_M → Prop}
    (h0 : pg_isX9 Λ v0)
    (h1 : pg_isX5 Λ v1)
    (e0 : pg_Ev S Λ YX9_lawBits d [.ref v0, .ref v1] M (fun r M' => ∃ x, r = some (.int x) ∧ Q0 x M'))
    (e1 : ∀ x1 M1, Q0 x1 M1 → pg_Ev S Λ YX5_worthOf d [.ref v1, .int x1] M1 (fun r M' => ∃ x, r = some (.int x) ∧ Q1 x M'))
    (k0 : ∀ x1 M1, Q0 x1 M1 → ∀ x2 M2, Q1 x2 M2 → P (some (.int x2)) M2) :
    pg_At S Λ YX9_worthOfLaws (d + 1) 0 [(0, .ref v0), (1, .ref v1)] [] M P := by
  refine pg_aload_n (pc := 0) (i := 1) (j := 1) (x := v1) dX9_worthOfLaws_0 rfl rfl ?_
  refine pg_aload_n (pc := 1) (i := 0) (j := 0) (x := v0) dX9_worthOfLaws_1 rfl rfl ?_
  refine pg_aload_n (pc := 2) (i := 1) (j := 1) (x := v1) dX9_worthOfLaws_2 rfl rfl ?_
  refine pg_callV (pc := 3) (As := [.ref v1]) (st := [.ref v1]) okX9_lawBits lkX9_67 rfl h0.1 rfl (Nat.le_refl _) (Nat.le_of_ble_eq_true rfl) e0 dX9_worthOfLaws_3 (fun r1 M1 w1 => ?_)
  obtain ⟨x1, rfl, w1⟩ := w1
  refine pg_callV (pc := 6) (As := [.int x1]) (st := []) okX5_worthOf lkX9_71 rfl h1.1 rfl (Nat.le_refl _) (Nat.le_of_ble_eq_true rfl) (e1 x1 M1 w1) dX9_worthOfLaws_6 (fun r2 M2 w2 => ?_)
  obtain ⟨x2, rfl, w2⟩ := w2
  exact pg_iret (pc := 9) rfl dX9_worthOfLaws_9 (k0 x1 M1 w1 x2 M2 w2)
theorem oX9_worthOfLaws {d : Nat} {v0 : Nat} {v1 : Nat} (h : pg_At S Λ YX9_worthOfLaws d 0 [(0, .ref v0), (1, .ref v1)] [] M P) : pg_Ev S Λ YX9_worthOfLaws d [.ref v0, .ref v1] M P := pg_Ev.of (by decide) (by first | decide | exact Nat.le_of_ble_eq_true rfl) h
theorem sX9_roomOf_0 {v0 : Nat} {v1 : Nat} {v2 : Int32} {Q0 : Int32 → pg_M → Prop}
    (h0 : pg_isX9 Λ v0)
    (b0 : vp_in v2 6)
    (e0 : pg_Ev S Λ YX9_roomBy d [.ref v1, .int v2, .int (pg_bc (M.1 (v0 + 3) v2.toNatClampNeg))] M (fun r M' => ∃ x, r = some (.int x) ∧ Q0 x M'))
    (k0 : ∀ x1 M1, Q0 x1 M1 → P (some (.int x1)) M1) :
    pg_At S Λ YX9_roomOf (d + 1) 0 [(0, .ref v0), (1, .ref v1), (2, .int v2)] [] M P := by
  refine pg_aload_n (pc := 0) (i := 1) (j := 1) (x := v1) dX9_roomOf_0 rfl rfl ?_
  refine pg_iload_n (pc := 1) (i := 2) (j := 2) (x := v2) dX9_roomOf_1 rfl rfl ?_
  refine pg_aload_n (pc := 2) (i := 0) (j := 0) (x := v0) dX9_roomOf_2 rfl rfl ?_
  refine gfX9_18 (pc := 3) rfl h0 dX9_roomOf_3 ?_
  refine pg_iload_n (pc := 6) (i := 2) (j := 2) (x := v2) dX9_roomOf_6 rfl rfl ?_
  refine pg_iald (pc := 7) h0.2.2.2.1 b0 dX9_roomOf_7 ?_
  refine pg_jbc (pc := 8) (st := [.int v2, .ref v1]) lkX9_47 (Nat.le_of_ble_eq_true rfl) dX9_roomOf_8 ?_
  refine pg_callS (pc := 11) (As := [.ref v1, .int v2, .int (pg_bc (M.1 (v0 + 3) v2.toNatClampNeg))]) (st := []) okX9_roomBy lkX9_74 rfl (Nat.le_refl _) (Nat.le_of_ble_eq_true rfl) e0 dX9_roomOf_11 (fun r1 M1 w1 => ?_)
  obtain ⟨x1, rfl, w1⟩ := w1
  exact pg_iret (pc := 14) rfl dX9_roomOf_14 (k0 x1 M1 w1)
theorem oX9_roomOf {d : Nat} {v0 : Nat} {v1 : Nat} {v2 : Int32} (h : pg_At S Λ YX9_roomOf d 0 [(0, .ref v0), (1, .ref v1), (2, .int v2)] [] M P) : pg_Ev S Λ YX9_roomOf d [.ref v0, .ref v1, .int v2] M P := pg_Ev.of (by decide) (by first | decide | exact Nat.le_of_ble_eq_true rfl) h
theorem sX9_roomLeft_0 {v0 : Nat} {v1 : Nat} 
    (h0 : pg_isX5 Λ v1)
    (k0 : pg_At S Λ YX9_roomLeft (d + 1) 7 [(0, .ref v0), (1, .ref v1), (2, .int (M.1 v1 13)), (3, .int 0)] [] M P) :
    pg_At S Λ YX9_roomLeft (d + 1) 0 [(0, .ref v0), (1, .ref v1)] [] M P := by
  refine pg_aload_n (pc := 0) (i := 1) (j := 1) (x := v1) dX9_roomLeft_0 rfl rfl ?_
  refine gfX9_78 (pc := 1) rfl h0 dX9_roomLeft_1 ?_
  refine pg_istore_n (pc := 4) (i := 2) (ls' := [(2, .int (M.1 v1 13)), (0, .ref v0), (1, .ref v1)]) dX9_roomLeft_4 rfl (by decide) rfl ?_
  refine pg_iconst (pc := 5) (v := 0) dX9_roomLeft_5 (by decide) ?_
  refine pg_istore_n (pc := 6) (i := 3) (ls' := [(3, .int 0), (2, .int (M.1 v1 13)), (0, .ref v0), (1, .ref v1)]) dX9_roomLeft_6 rfl (by decide) rfl ?_
  refine pg_drop (ks := [2, 3, 1, 0]) (ls' := [(0, .ref v0), (1, .ref v1), (2, .int (M.1 v1 13)), (3, .int 0)]) rfl ?_
  exact k0
theorem sX9_roomLeft_7 {v0 : Nat} {v1 : Nat} {v2 : Int32} {v3 : Int32} {Q0 : Int32 → pg_M → Prop}
    (h0 : pg_isX5 Λ v1)
    (h1 : pg_isX9 Λ v0)
    (k0 : ((M.1 v1 10) ≤ v3) → P (some (.int v2)) M)
    (e0 : (¬ (M.1 v1 10) ≤ v3) → pg_Ev S Λ YX9_roomOf d [.ref v0, .ref v1, .int v3] M (fun r M' => ∃ x, r = some (.int x) ∧ Q0 x M'))
    (k1 : (¬ (M.1 v1 10) ≤ v3) → ∀ x1 M1, Q0 x1 M1 → pg_At S Λ YX9_roomLeft (d + 1) 7 [(0, .ref v0), (1, .ref v1), (2, .int (v2 - x1)), (3, .int (v3 + 1))] [] M1 P) :
    pg_At S Λ YX9_roomLeft (d + 1) 7 [(0, .ref v0), (1, .ref v1), (2, .int v2), (3, .int v3)] [] M P := by
  refine pg_iload_n (pc := 7) (i := 3) (j := 3) (x := v3) dX9_roomLeft_7 rfl rfl ?_
  refine pg_aload_n (pc := 8) (i := 1) (j := 1) (x := v1) dX9_roomLeft_8 rfl rfl ?_
  refine gfX9_56 (pc := 9) rfl h0 dX9_roomLeft_9 ?_
  refine pg_icmp_ge (pc := 12) (tgt := 30) dX9_roomLeft_12 (by decide) (fun c0 => ?_) (fun c0 => ?_)
  · skip
    refine pg_iload_n (pc := 30) (i := 2) (j := 2) (x := v2) dX9_roomLeft_30 rfl rfl ?_
    exact pg_iret (pc := 31) rfl dX9_roomLeft_31 (k0 c0)
  · skip
    refine pg_iload_n (pc := 15) (i := 2) (j := 2) (x := v2) dX9_roomLeft_15 rfl rfl ?_
    refine pg_aload_n (pc := 16) (i := 0) (j := 0) (x := v0) dX9_roomLeft_16 rfl rfl ?_
    refine pg_aload_n (pc := 17) (i := 1) (j := 1) (x := v1) dX9_roomLeft_17 rfl rfl ?_
    refine pg_iload_n (pc := 18) (i := 3) (j := 3) (x := v3) dX9_roomLeft_18 rfl rfl ?_
    refine pg_callV (pc := 19) (As := [.ref v1, .int v3]) (st := [.int v2]) okX9_roomOf lkX9_81 rfl h1.1 rfl (Nat.le_refl _) (Nat.le_of_ble_eq_true rfl) (e0 c0) dX9_roomLeft_19 (fun r1 M1 w1 => ?_)
    obtain ⟨x1, rfl, w1⟩ := w1
    refine pg_isub (pc := 22) dX9_roomLeft_22 ?_
    refine pg_istore_n (pc := 23) (i := 2) (ls' := [(2, .int (v2 - x1)), (0, .ref v0), (1, .ref v1), (3, .int v3)]) dX9_roomLeft_23 rfl (by decide) rfl ?_
    refine pg_iinc (pc := 24) (i := 3) (j := 3) (x := v3) (v := v3 + 1) (ls' := [(3, .int (v3 + 1)), (2, .int (v2 - x1)), (0, .ref v0), (1, .ref v1)]) dX9_roomLeft_24 rfl rfl (by decide) rfl ?_
    refine pg_goto (pc := 27) (tgt := 7) dX9_roomLeft_27 (by decide) ?_
    refine pg_drop (ks := [2, 3, 1, 0]) (ls' := [(0, .ref v0), (1, .ref v1), (2, .int (v2 - x1)), (3, .int (v3 + 1))]) rfl ?_
    exact k1 c0 x1 M1 w1
theorem oX9_roomLeft {d : Nat} {v0 : Nat} {v1 : Nat} (h : pg_At S Λ YX9_roomLeft d 0 [(0, .ref v0), (1, .ref v1)] [] M P) : pg_Ev S Λ YX9_roomLeft d [.ref v0, .ref v1] M P := pg_Ev.of (by decide) (by first | decide | exact Nat.le_of_ble_eq_true rfl) h
theorem sX9_heldBy_0 {v0 : Nat} {v1 : Int32} 
    (k0 : pg_At S Λ YX9_heldBy d 2 [(0, .ref v0), (1, .int v1), (2, .int 0)] [] M P) :
    pg_At S Λ YX9_heldBy d 0 [(0, .ref v0), (1, .int v1)] [] M P := by
  refine pg_iconst (pc := 0) (v := 0) dX9_heldBy_0 (by decide) ?_
  refine pg_istore_n (pc := 1) (i := 2) (ls' := [(2, .int 0), (0, .ref v0), (1, .int v1)]) dX9_heldBy_1 rfl (by decide) rfl ?_
  refine pg_drop (ks := [1, 2, 0]) (ls' := [(0, .ref v0), (1, .int v1), (2, .int 0)]) rfl ?_
  exact k0
theorem sX9_heldBy_2 {v0 : Nat} {v1 : Int32} {v2 : Int32} 
    (h0 : pg_isX9 Λ v0)
    (k0 : (6 ≤ v2) → P (some (.int (-1))) M)
    (b0 : (¬ 6 ≤ v2) → vp_in v2 6)
    (k1 : (¬ 6 ≤ v2) → ((((M.1 (v0 + 3) v2.toNatClampNeg) >>> (v1 &&& 31)) &&& 1) = 0) → pg_At S Λ YX9_heldBy d 2 [(0, .ref v0), (1, .int v1), (2, .int (v2 + 1))] [] M P)
    (k2 : (¬ 6 ≤ v2) → (¬ (((M.1 (v0 + 3) v2.toNatClampNeg) >>> (v1 &&& 31)) &&& 1) = 0) → P (some (.int v2)) M) :
    pg_At S Λ YX9_heldBy d 2 [(0, .ref v0), (1, .int v1), (2, .int v2)] [] M P := by
  refine pg_iload_n (pc := 2) (i := 2) (j := 2) (x := v2) dX9_heldBy_2 rfl rfl ?_
  refine pg_bipush (pc := 3) (v := 6) dX9_heldBy_3 (by decide) ?_
  refine pg_icmp_ge (pc := 5) (tgt := 29) dX9_heldBy_5 (by decide) (fun c0 => ?_) (fun c0 => ?_)
  · skip
    refine pg_iconst (pc := 29) (v := (-1)) dX9_heldBy_29 (by decide) ?_
    exact pg_iret (pc := 30) rfl dX9_heldBy_30 (k0 c0)
  · skip
    refine pg_aload_n (pc := 8) (i := 0) (j := 0) (x := v0) dX9_heldBy_8 rfl rfl ?_
    refine gfX9_18 (pc := 9) rfl h0 dX9_heldBy_9 ?_
    refine pg_iload_n (pc := 12) (i := 2) (j := 2) (x := v2) dX9_heldBy_12 rfl rfl ?_
    refine pg_iald (pc := 13) h0.2.2.2.1 (b0 c0) dX9_heldBy_13 ?_
    refine pg_iload_n (pc := 14) (i := 1) (j := 1) (x := v1) dX9_heldBy_14 rfl rfl ?_
    refine pg_ishr (pc := 15) dX9_heldBy_15 ?_
    refine pg_iconst (pc := 16) (v := 1) dX9_heldBy_16 (by decide) ?_
    refine pg_iand (pc := 17) dX9_heldBy_17 ?_
    refine pg_if_eq (pc := 18) (tgt := 23) dX9_heldBy_18 (by decide) (fun c1 => ?_) (fun c1 => ?_)
    · skip
      refine pg_iinc (pc := 23) (i := 2) (j := 2) (x := v2) (v := v2 + 1) (ls' := [(2, .int (v2 + 1)), (0, .ref v0), (1, .int v1)]) dX9_heldBy_23 rfl rfl (by decide) rfl ?_
      refine pg_goto (pc := 26) (tgt := 2) dX9_heldBy_26 (by decide) ?_
      refine pg_drop (ks := [1, 2, 0]) (ls' := [(0, .ref v0), (1, .int v1), (2, .int (v2 + 1))]) rfl ?_
      exact k1 c0 c1
    · skip
      refine pg_iload_n (pc := 21) (i := 2) (j := 2) (x := v2) dX9_heldBy_21 rfl rfl ?_
      exact pg_iret (pc := 22) rfl dX9_heldBy_22 (k2 c0 c1)
theorem oX9_heldBy {d : Nat} {v0 : Nat} {v1 : Int32} (h : pg_At S Λ YX9_heldBy d 0 [(0, .ref v0), (1, .int v1)] [] M P) : pg_Ev S Λ YX9_heldBy d [.ref v0, .int v1] M P := pg_Ev.of (by decide) (by first | decide | exact Nat.le_of_ble_eq_true rfl) h
theorem sX9_freePegs_0 {v0 : Nat} {Q0 : Int32 → pg_M → Prop}
    (h0 : pg_isX9 Λ v0)
    (e0 : pg_Ev S Λ YX9_unsplitPegs d [.ref v0] M (fun r M' => ∃ x, r = some (.int x) ∧ Q0 x M'))
    (k0 : ∀ x1 M1, Q0 x1 M1 → pg_At S Λ YX9_freePegs (d + 1) 7 [(0, .ref v0), (1, .int x1), (2, .int 0)] [] M1 P) :
    pg_At S Λ YX9_freePegs (d + 1) 0 [(0, .ref v0)] [] M P := by
  refine pg_aload_n (pc := 0) (i := 0) (j := 0) (x := v0) dX9_freePegs_0 rfl rfl ?_
  refine pg_callV (pc := 1) (As := []) (st := []) okX9_unsplitPegs lkX9_85 rfl h0.1 rfl (Nat.le_refl _) (Nat.le_of_ble_eq_true rfl) e0 dX9_freePegs_1 (fun r1 M1 w1 => ?_)
  obtain ⟨x1, rfl, w1⟩ := w1
  refine pg_istore_n (pc := 4) (i := 1) (ls' := [(1, .int x1), (0, .ref v0)]) dX9_freePegs_4 rfl (by decide) rfl ?_
  refine pg_iconst (pc := 5) (v := 0) dX9_freePegs_5 (by decide) ?_
  refine pg_istore_n (pc := 6) (i := 2) (ls' := [(2, .int 0), (1, .int x1), (0, .ref v0)]) dX9_freePegs_6 rfl (by decide) rfl ?_
  refine pg_drop (ks := [2, 1, 0]) (ls' := [(0, .ref v0), (1, .int x1), (2, .int 0)]) rfl ?_
  exact k0 x1 M1 w1
theorem sX9_freePegs_7 {v0 : Nat} {v1 : Int32} {v2 : Int32} 
    (h0 : pg_isX9 Λ v0)
    (k0 : (6 ≤ v2) → P (some (.int v1)) M)
    (b0 : (¬ 6 ≤ v2) → vp_in v2 6)
    (k1 : (¬ 6 ≤ v2) → pg_At S Λ YX9_freePegs (d + 1) 7 [(0, .ref v0), (1, .int (v1 &&& ((M.1 (v0 + 3) v2.toNatClampNeg) ^^^ (-1)))), (2, .int (v2 + 1))] [] M P) :
    pg_At S Λ YX9_freePegs (d + 1) 7 [(0, .ref v0), (1, .int v1), (2, .int v2)] [] M P := by
  refine pg_iload_n (pc := 7) (i := 2) (j := 2) (x := v2) dX9_freePegs_7 rfl rfl ?_
  refine pg_bipush (pc := 8) (v := 6) dX9_freePegs_8 (by decide) ?_
  refine pg_icmp_ge (pc := 10) (tgt := 30) dX9_freePegs_10 (by decide) (fun c0 => ?_) (fun c0 => ?_)
  · skip
    refine pg_iload_n (pc := 30) (i := 1) (j := 1) (x := v1) dX9_freePegs_30 rfl rfl ?_
    exact pg_iret (pc := 31) rfl dX9_freePegs_31 (k0 c0)
  · skip
    refine pg_iload_n (pc := 13) (i := 1) (j := 1) (x := v1) dX9_freePegs_13 rfl rfl ?_
    refine pg_aload_n (pc := 14) (i := 0) (j := 0) (x := v0) dX9_freePegs_14 rfl rfl ?_
    refine gfX9_18 (pc := 15) rfl h0 dX9_freePegs_15 ?_
    refine pg_iload_n (pc := 18) (i := 2) (j := 2) (x := v2) dX9_freePegs_18 rfl rfl ?_
    refine pg_iald (pc := 19) h0.2.2.2.1 (b0 c0) dX9_freePegs_19 ?_
    refine pg_iconst (pc := 20) (v := (-1)) dX9_freePegs_20 (by decide) ?_
    refine pg_ixor (pc := 21) dX9_freePegs_21 ?_
    refine pg_iand (pc := 22) dX9_freePegs_22 ?_
    refine pg_istore_n (pc := 23) (i := 1) (ls' := [(1, .int (v1 &&& ((M.1 (v0 + 3) v2.toNatClampNeg) ^^^ (-1)))), (0, .ref v0), (2, .int v2)]) dX9_freePegs_23 rfl (by decide) rfl ?_
    refine pg_iinc (pc := 24) (i := 2) (j := 2) (x := v2) (v := v2 + 1) (ls' := [(2, .int (v2 + 1)), (1, .int (v1 &&& ((M.1 (v0 + 3) v2.toNatClampNeg) ^^^ (-1)))), (0, .ref v0)]) dX9_freePegs_24 rfl rfl (by decide) rfl ?_
    refine pg_goto (pc := 27) (tgt := 7) dX9_freePegs_27 (by decide) ?_
    refine pg_drop (ks := [2, 1, 0]) (ls' := [(0, .ref v0), (1, .int (v1 &&& ((M.1 (v0 + 3) v2.toNatClampNeg) ^^^ (-1)))), (2, .int (v2 + 1))]) rfl ?_
    exact k1 c0
theorem oX9_freePegs {d : Nat} {v0 : Nat} (h : pg_At S Λ YX9_freePegs d 0 [(0, .ref v0)] [] M P) : pg_Ev S Λ YX9_freePegs d [.ref v0] M P := pg_Ev.of (by decide) (by first | decide | exact Nat.le_of_ble_eq_true rfl) h
theorem sX9_unsplitPegs_0 {v0 : Nat} 
    (k0 : pg_At S Λ YX9_unsplitPegs d 4 [(0, .ref v0), (1, .int 0), (2, .int 0)] [] M P) :
    pg_At S Λ YX9_unsplitPegs d 0 [(0, .ref v0)] [] M P := by
  refine pg_iconst (pc := 0) (v := 0) dX9_unsplitPegs_0 (by decide) ?_
  refine pg_istore_n (pc := 1) (i := 1) (ls' := [(1, .int 0), (0, .ref v0)]) dX9_unsplitPegs_1 rfl (by decide) rfl ?_
  refine pg_iconst (pc := 2) (v := 0) dX9_unsplitPegs_2 (by decide) ?_
  refine pg_istore_n (pc := 3) (i := 2) (ls' := [(2, .int 0), (1, .int 0), (0, .ref v0)]) dX9_unsplitPegs_3 rfl (by decide) rfl ?_
  refine pg_drop (ks := [2, 1, 0]) (ls' := [(0, .ref v0), (1, .int 0), (2, .int 0)]) rfl ?_
  exact k0
theorem sX9_unsplitPegs_4 {v0 : Nat} {v1 : Int32} {v2 : Int32} 
    (h0 : pg_isX9 Λ v0)
    (k0 : ((M.1 v0 4) ≤ v2) → P (some (.int v1)) M)
    (b0 : (¬ (M.1 v0 4) ≤ v2) → vp_in v2 8)
    (k1 : (¬ (M.1 v0 4) ≤ v2) → ((M.1 (v0 + 4) v2.toNatClampNeg) ≤ 0) → pg_At S Λ YX9_unsplitPegs d 4 [(0, .ref v0), (1, .int v1), (2, .int (v2 + 1))] [] M P)
    (k2 : (¬ (M.1 v0 4) ≤ v2) → (¬ (M.1 (v0 + 4) v2.toNatClampNeg) ≤ 0) → pg_At S Λ YX9_unsplitPegs d 4 [(0, .ref v0), (1, .int (v1 ||| ((1 : Int32) <<< (v2 &&& 31)))), (2, .int (v2 + 1))] [] M P) :
    pg_At S Λ YX9_unsplitPegs d 4 [(0, .ref v0), (1, .int v1), (2, .int v2)] [] M P := by
  refine pg_iload_n (pc := 4) (i := 2) (j := 2) (x := v2) dX9_unsplitPegs_4 rfl rfl ?_
  refine pg_aload_n (pc := 5) (i := 0) (j := 0) (x := v0) dX9_unsplitPegs_5 rfl rfl ?_
  refine gfX9_43 (pc := 6) rfl h0 dX9_unsplitPegs_6 ?_
  refine pg_icmp_ge (pc := 9) (tgt := 33) dX9_unsplitPegs_9 (by decide) (fun c0 => ?_) (fun c0 => ?_)
  · skip
    refine pg_iload_n (pc := 33) (i := 1) (j := 1) (x := v1) dX9_unsplitPegs_33 rfl rfl ?_
    exact pg_iret (pc := 34) rfl dX9_unsplitPegs_34 (k0 c0)
  · skip
    refine pg_aload_n (pc := 12) (i := 0) (j := 0) (x := v0) dX9_unsplitPegs_12 rfl rfl ?_
    refine gfX9_21 (pc := 13) rfl h0 dX9_unsplitPegs_13 ?_
    refine pg_iload_n (pc := 16) (i := 2) (j := 2) (x := v2) dX9_unsplitPegs_16 rfl rfl ?_
    refine pg_iald (pc := 17) h0.2.2.2.2 (b0 c0) dX9_unsplitPegs_17 ?_
    refine pg_if_le (pc := 18) (tgt := 27) dX9_unsplitPegs_18 (by decide) (fun c1 => ?_) (fun c1 => ?_)
    · skip
      refine pg_iinc (pc := 27) (i := 2) (j := 2) (x := v2) (v := v2 + 1) (ls' := [(2, .int (v2 + 1)), (0, .ref v0), (1, .int v1)]) dX9_unsplitPegs_27 rfl rfl (by decide) rfl ?_
      refine pg_goto (pc := 30) (tgt := 4) dX9_unsplitPegs_30 (by decide) ?_
      refine pg_drop (ks := [1, 2, 0]) (ls' := [(0, .ref v0), (1, .int v1), (2, .int (v2 + 1))]) rfl ?_
      exact k1 c0 c1
    · skip
      refine pg_iload_n (pc := 21) (i := 1) (j := 1) (x := v1) dX9_unsplitPegs_21 rfl rfl ?_
      refine pg_iconst (pc := 22) (v := 1) dX9_unsplitPegs_22 (by decide) ?_
      refine pg_iload_n (pc := 23) (i := 2) (j := 2) (x := v2) dX9_unsplitPegs_23 rfl rfl ?_
      refine pg_ishl (pc := 24) dX9_unsplitPegs_24 ?_
      refine pg_ior (pc := 25) dX9_unsplitPegs_25 ?_
      refine pg_istore_n (pc := 26) (i := 1) (ls' := [(1, .int (v1 ||| ((1 : Int32) <<< (v2 &&& 31)))), (0, .ref v0), (2, .int v2)]) dX9_unsplitPegs_26 rfl (by decide) rfl ?_
      refine pg_iinc (pc := 27) (i := 2) (j := 2) (x := v2) (v := v2 + 1) (ls' := [(2, .int (v2 + 1)), (1, .int (v1 ||| ((1 : Int32) <<< (v2 &&& 31)))), (0, .ref v0)]) dX9_unsplitPegs_27 rfl rfl (by decide) rfl ?_
      refine pg_goto (pc := 30) (tgt := 4) dX9_unsplitPegs_30 (by decide) ?_
      refine pg_drop (ks := [2, 1, 0]) (ls' := [(0, .ref v0), (1, .int (v1 ||| ((1 : Int32) <<< (v2 &&& 31)))), (2, .int (v2 + 1))]) rfl ?_
      exact k2 c0 c1
theorem oX9_unsplitPegs {d : Nat} {v0 : Nat} (h : pg_At S Λ YX9_unsplitPegs d 0 [(0, .ref v0)] [] M P) : pg_Ev S Λ YX9_unsplitPegs d [.ref v0] M P := pg_Ev.of (by decide) (by first | decide | exact Nat.le_of_ble_eq_true rfl) h
theorem sX9_firstFree_0 {v0 : Nat} {v1 : Int32} {Q0 : Int32 → pg_M → Prop}
    (h0 : pg_isX9 Λ v0)
    (e0 : pg_Ev S Λ YX9_freePegs d [.ref v0] M (fun r M' => ∃ x, r = some (.int x) ∧ Q0 x M'))
    (k0 : ∀ x1 M1, Q0 x1 M1 → pg_At S Λ YX9_firstFree (d + 1) 10 [(1, .int v1), (2, .int x1), (3, .int 0), (4, .int 0)] [] M1 P) :
    pg_At S Λ YX9_firstFree (d + 1) 0 [(0, .ref v0), (1, .int v1)] [] M P := by
  refine pg_aload_n (pc := 0) (i := 0) (j := 0) (x := v0) dX9_firstFree_0 rfl rfl ?_
  refine pg_callV (pc := 1) (As := []) (st := []) okX9_freePegs lkX9_89 rfl h0.1 rfl (Nat.le_refl _) (Nat.le_of_ble_eq_true rfl) e0 dX9_firstFree_1 (fun r1 M1 w1 => ?_)
  obtain ⟨x1, rfl, w1⟩ := w1
  refine pg_istore_n (pc := 4) (i := 2) (ls' := [(2, .int x1), (0, .ref v0), (1, .int v1)]) dX9_firstFree_4 rfl (by decide) rfl ?_
  refine pg_iconst (pc := 5) (v := 0) dX9_firstFree_5 (by decide) ?_
  refine pg_istore_n (pc := 6) (i := 3) (ls' := [(3, .int 0), (2, .int x1), (0, .ref v0), (1, .int v1)]) dX9_firstFree_6 rfl (by decide) rfl ?_
  refine pg_iconst (pc := 7) (v := 0) dX9_firstFree_7 (by decide) ?_
  refine pg_istore (pc := 8) (i := 4) (ls' := [(4, .int 0), (3, .int 0), (2, .int x1), (0, .ref v0), (1, .int v1)]) dX9_firstFree_8 (by decide) rfl ?_
  refine pg_drop (ks := [4, 2, 1, 0]) (ls' := [(1, .int v1), (2, .int x1), (3, .int 0), (4, .int 0)]) rfl ?_
  exact k0 x1 M1 w1
theorem sX9_firstFree_10 {v1 : Int32} {v2 : Int32} {v3 : Int32} {v4 : Int32} 
    (k0 : (v1 ≤ v4) → (¬ (pg_bc v3) = v1) → P (some (.int 0)) M)
    (k1 : (v1 ≤ v4) → ((pg_bc v3) = v1) → P (some (.int v3)) M)
    (k2 : (¬ v1 ≤ v4) → pg_At S Λ YX9_firstFree (d + 1) 10 [(1, .int v1), (2, .int (v2 &&& (v2 - 1))), (3, .int (v3 ||| (v2 &&& (-v2)))), (4, .int (v4 + 1))] [] M P) :
    pg_At S Λ YX9_firstFree (d + 1) 10 [(1, .int v1), (2, .int v2), (3, .int v3), (4, .int v4)] [] M P := by
  refine pg_iload (pc := 10) (i := 4) (j := 3) (x := v4) dX9_firstFree_10 rfl ?_
  refine pg_iload_n (pc := 12) (i := 1) (j := 0) (x := v1) dX9_firstFree_12 rfl rfl ?_
  refine pg_icmp_ge (pc := 13) (tgt := 35) dX9_firstFree_13 (by decide) (fun c0 => ?_) (fun c0 => ?_)
  · skip
    refine pg_iload_n (pc := 35) (i := 3) (j := 2) (x := v3) dX9_firstFree_35 rfl rfl ?_
    refine pg_jbc (pc := 36) (st := []) lkX9_47 (Nat.le_of_ble_eq_true rfl) dX9_firstFree_36 ?_
    refine pg_iload_n (pc := 39) (i := 1) (j := 0) (x := v1) dX9_firstFree_39 rfl rfl ?_
    refine pg_icmp_ne (pc := 40) (tgt := 47) dX9_firstFree_40 (by decide) (fun c1 => ?_) (fun c1 => ?_)
    · skip
      refine pg_iconst (pc := 47) (v := 0) dX9_firstFree_47 (by decide) ?_
      exact pg_iret (pc := 48) rfl dX9_firstFree_48 (k0 c0 c1)
    · skip
      refine pg_iload_n (pc := 43) (i := 3) (j := 2) (x := v3) dX9_firstFree_43 rfl rfl ?_
      refine pg_goto (pc := 44) (tgt := 48) dX9_firstFree_44 (by decide) ?_
      exact pg_iret (pc := 48) rfl dX9_firstFree_48 (k1 c0 c1)
  · skip
    refine pg_iload_n (pc := 16) (i := 3) (j := 2) (x := v3) dX9_firstFree_16 rfl rfl ?_
    refine pg_iload_n (pc := 17) (i := 2) (j := 1) (x := v2) dX9_firstFree_17 rfl rfl ?_
    refine pg_jlow (pc := 18) (st := [.int v3]) lkX9_92 (Nat.le_of_ble_eq_true rfl) dX9_firstFree_18 ?_
    refine pg_ior (pc := 21) dX9_firstFree_21 ?_
    refine pg_istore_n (pc := 22) (i := 3) (ls' := [(3, .int (v3 ||| (v2 &&& (-v2)))), (1, .int v1), (2, .int v2), (4, .int v4)]) dX9_firstFree_22 rfl (by decide) rfl ?_
    refine pg_iload_n (pc := 23) (i := 2) (j := 2) (x := v2) dX9_firstFree_23 rfl rfl ?_
    refine pg_iload_n (pc := 24) (i := 2) (j := 2) (x := v2) dX9_firstFree_24 rfl rfl ?_
    refine pg_iconst (pc := 25) (v := 1) dX9_firstFree_25 (by decide) ?_
    refine pg_isub (pc := 26) dX9_firstFree_26 ?_
    refine pg_iand (pc := 27) dX9_firstFree_27 ?_
    refine pg_istore_n (pc := 28) (i := 2) (ls' := [(2, .int (v2 &&& (v2 - 1))), (3, .int (v3 ||| (v2 &&& (-v2)))), (1, .int v1), (4, .int v4)]) dX9_firstFree_28 rfl (by decide) rfl ?_
    refine pg_iinc (pc := 29) (i := 4) (j := 3) (x := v4) (v := v4 + 1) (ls' := [(4, .int (v4 + 1)), (2, .int (v2 &&& (v2 - 1))), (3, .int (v3 ||| (v2 &&& (-v2)))), (1, .int v1)]) dX9_firstFree_29 rfl rfl (by decide) rfl ?_
    refine pg_goto (pc := 32) (tgt := 10) dX9_firstFree_32 (by decide) ?_
    refine pg_drop (ks := [3, 1, 2, 0]) (ls' := [(1, .int v1), (2, .int (v2 &&& (v2 - 1))), (3, .int (v3 ||| (v2 &&& (-v2)))), (4, .int (v4 + 1))]) rfl ?_
    exact k2 c0
theorem oX9_firstFree {d : Nat} {v0 : Nat} {v1 : Int32} (h : pg_At S Λ YX9_firstFree d 0 [(0, .ref v0), (1, .int v1)] [] M P) : pg_Ev S Λ YX9_firstFree d [.ref v0, .int v1] M P := pg_Ev.of (by decide) (by first | decide | exact Nat.le_of_ble_eq_true rfl) h
theorem sX9_gripsOf_0 {v0 : Nat} {v1 : Int32} {Q0 : Int32 → pg_M → Prop}
    (h0 : pg_isX9 Λ v0)
    (e0 : pg_Ev S Λ YX9_gripsLess d [.ref v0, .int v1, .int 0] M (fun r M' => ∃ x, r = some (.int x) ∧ Q0 x M'))
    (k0 : ∀ x1 M1, Q0 x1 M1 → P (some (.int x1)) M1) :
    pg_At S Λ YX9_gripsOf (d + 1) 0 [(0, .ref v0), (1, .int v1)] [] M P := by
  refine pg_aload_n (pc := 0) (i := 0) (j := 0) (x := v0) dX9_gripsOf_0 rfl rfl ?_
  refine pg_iload_n (pc := 1) (i := 1) (j := 1) (x := v1) dX9_gripsOf_1 rfl rfl ?_
  refine pg_iconst (pc := 2) (v := 0) dX9_gripsOf_2 (by decide) ?_
  refine pg_callV (pc := 3) (As := [.int v1, .int 0]) (st := []) okX9_gripsLess lkX9_95 rfl h0.1 rfl (Nat.le_refl _) (Nat.le_of_ble_eq_true rfl) e0 dX9_gripsOf_3 (fun r1 M1 w1 => ?_)
  obtain ⟨x1, rfl, w1⟩ := w1
  exact pg_iret (pc := 6) rfl dX9_gripsOf_6 (k0 x1 M1 w1)
theorem oX9_gripsOf {d : Nat} {v0 : Nat} {v1 : Int32} (h : pg_At S Λ YX9_gripsOf d 0 [(0, .ref v0), (1, .int v1)] [] M P) : pg_Ev S Λ YX9_gripsOf d [.ref v0, .int v1] M P := pg_Ev.of (by decide) (by first | decide | exact Nat.le_of_ble_eq_true rfl) h
theorem sX9_gripsLess_0 {v0 : Nat} {v1 : Int32} {v2 : Int32} 
    (k0 : pg_At S Λ YX9_gripsLess (d + 1) 5 [(0, .ref v0), (1, .int v1), (2, .int v2), (3, .int 0), (4, .int 0)] [] M P) :
    pg_At S Λ YX9_gripsLess (d + 1) 0 [(0, .ref v0), (1, .int v1), (2, .int v2)] [] M P := by
  refine pg_iconst (pc := 0) (v := 0) dX9_gripsLess_0 (by decide) ?_
  refine pg_istore_n (pc := 1) (i := 3) (ls' := [(3, .int 0), (0, .ref v0), (1, .int v1), (2, .int v2)]) dX9_gripsLess_1 rfl (by decide) rfl ?_
  refine pg_iconst (pc := 2) (v := 0) dX9_gripsLess_2 (by decide) ?_
  refine pg_istore (pc := 3) (i := 4) (ls' := [(4, .int 0), (3, .int 0), (0, .ref v0), (1, .int v1), (2, .int v2)]) dX9_gripsLess_3 (by decide) rfl ?_
  refine pg_drop (ks := [2, 3, 4, 1, 0]) (ls' := [(0, .ref v0), (1, .int v1), (2, .int v2), (3, .int 0), (4, .int 0)]) rfl ?_
  exact k0
theorem sX9_gripsLess_5 {v0 : Nat} {v1 : Int32} {v2 : Int32} {v3 : Int32} {v4 : Int32} 
    (h0 : pg_isX9 Λ v0)
    (k0 : ((M.1 v0 4) ≤ v4) → P (some (.int v3)) M)
    (k1 : (¬ (M.1 v0 4) ≤ v4) → (((v1 >>> (v4 &&& 31)) &&& 1) = 0) → pg_At S Λ YX9_gripsLess (d + 1) 5 [(0, .ref v0), (1, .int v1), (2, .int v2), (3, .int v3), (4, .int (v4 + 1))] [] M P)
    (b0 : (¬ (M.1 v0 4) ≤ v4) → (¬ ((v1 >>> (v4 &&& 31)) &&& 1) = 0) → vp_in v4 8)
    (k2 : (¬ (M.1 v0 4) ≤ v4) → (¬ ((v1 >>> (v4 &&& 31)) &&& 1) = 0) → pg_At S Λ YX9_gripsLess (d + 1) 5 [(0, .ref v0), (1, .int v1), (2, .int v2), (3, .int (v3 + (pg_max 0 ((M.1 (v0 + 4) v4.toNatClampNeg) - v2)))), (4, .int (v4 + 1))] [] M P) :
    pg_At S Λ YX9_gripsLess (d + 1) 5 [(0, .ref v0), (1, .int v1), (2, .int v2), (3, .int v3), (4, .int v4)] [] M P := by
  refine pg_iload (pc := 5) (i := 4) (j := 4) (x := v4) dX9_gripsLess_5 rfl ?_
  refine pg_aload_n (pc := 7) (i := 0) (j := 0) (x := v0) dX9_gripsLess_7 rfl rfl ?_
  refine gfX9_43 (pc := 8) rfl h0 dX9_gripsLess_8 ?_
  refine pg_icmp_ge (pc := 11) (tgt := 45) dX9_gripsLess_11 (by decide) (fun c0 => ?_) (fun c0 => ?_)
  · skip
    refine pg_iload_n (pc := 45) (i := 3) (j := 3) (x := v3) dX9_gripsLess_45 rfl rfl ?_
    exact pg_iret (pc := 46) rfl dX9_gripsLess_46 (k0 c0)
  · skip
    refine pg_iload_n (pc := 14) (i := 1) (j := 1) (x := v1) dX9_gripsLess_14 rfl rfl ?_
    refine pg_iload (pc := 15) (i := 4) (j := 4) (x := v4) dX9_gripsLess_15 rfl ?_
    refine pg_ishr (pc := 17) dX9_gripsLess_17 ?_
    refine pg_iconst (pc := 18) (v := 1) dX9_gripsLess_18 (by decide) ?_
    refine pg_iand (pc := 19) dX9_gripsLess_19 ?_
    refine pg_if_eq (pc := 20) (tgt := 39) dX9_gripsLess_20 (by decide) (fun c1 => ?_) (fun c1 => ?_)
    · skip
      refine pg_iinc (pc := 39) (i := 4) (j := 4) (x := v4) (v := v4 + 1) (ls' := [(4, .int (v4 + 1)), (0, .ref v0), (1, .int v1), (2, .int v2), (3, .int v3)]) dX9_gripsLess_39 rfl rfl (by decide) rfl ?_
      refine pg_goto (pc := 42) (tgt := 5) dX9_gripsLess_42 (by decide) ?_
      refine pg_drop (ks := [1, 2, 3, 4, 0]) (ls' := [(0, .ref v0), (1, .int v1), (2, .int v2), (3, .int v3), (4, .int (v4 + 1))]) rfl ?_
      exact k1 c0 c1
    · skip
      refine pg_iload_n (pc := 23) (i := 3) (j := 3) (x := v3) dX9_gripsLess_23 rfl rfl ?_
      refine pg_iconst (pc := 24) (v := 0) dX9_gripsLess_24 (by decide) ?_
      refine pg_aload_n (pc := 25) (i := 0) (j := 0) (x := v0) dX9_gripsLess_25 rfl rfl ?_
      refine gfX9_21 (pc := 26) rfl h0 dX9_gripsLess_26 ?_
      refine pg_iload (pc := 29) (i := 4) (j := 4) (x := v4) dX9_gripsLess_29 rfl ?_
      refine pg_iald (pc := 31) h0.2.2.2.2 (b0 c0 c1) dX9_gripsLess_31 ?_
      refine pg_iload_n (pc := 32) (i := 2) (j := 2) (x := v2) dX9_gripsLess_32 rfl rfl ?_
      refine pg_isub (pc := 33) dX9_gripsLess_33 ?_
      refine pg_jmax (pc := 34) (st := [.int v3]) lkX9_99 (Nat.le_of_ble_eq_true rfl) dX9_gripsLess_34 ?_
      refine pg_iadd (pc := 37) dX9_gripsLess_37 ?_
      refine pg_istore_n (pc := 38) (i := 3) (ls' := [(3, .int (v3 + (pg_max 0 ((M.1 (v0 + 4) v4.toNatClampNeg) - v2)))), (0, .ref v0), (1, .int v1), (2, .int v2), (4, .int v4)]) dX9_gripsLess_38 rfl (by decide) rfl ?_
      refine pg_iinc (pc := 39) (i := 4) (j := 4) (x := v4) (v := v4 + 1) (ls' := [(4, .int (v4 + 1)), (3, .int (v3 + (pg_max 0 ((M.1 (v0 + 4) v4.toNatClampNeg) - v2)))), (0, .ref v0), (1, .int v1), (2, .int v2)]) dX9_gripsLess_39 rfl rfl (by decide) rfl ?_
      refine pg_goto (pc := 42) (tgt := 5) dX9_gripsLess_42 (by decide) ?_
      refine pg_drop (ks := [2, 3, 4, 1, 0]) (ls' := [(0, .ref v0), (1, .int v1), (2, .int v2), (3, .int (v3 + (pg_max 0 ((M.1 (v0 + 4) v4.toNatClampNeg) - v2)))), (4, .int (v4 + 1))]) rfl ?_
      exact k2 c0 c1
theorem oX9_gripsLess {d : Nat} {v0 : Nat} {v1 : Int32} {v2 : Int32} (h : pg_At S Λ YX9_gripsLess d 0 [(0, .ref v0), (1, .int v1), (2, .int v2)] [] M P) : pg_Ev S Λ YX9_gripsLess d [.ref v0, .int v1, .int v2] M P := pg_Ev.of (by decide) (by first | decide | exact Nat.le_of_ble_eq_true rfl) h
theorem sX9_hangUp_0 {v0 : Nat} {v1 : Nat} {v2 : Int32} {v3 : Int32} {Q0 : Int32 → pg_M → Prop} {Q1 : Int32 → pg_M → Prop} {Q2 : Int32 → pg_M → Prop} {Q3 : Int32 → pg_M → Prop} {Q4 : Int32 → pg_M → Prop} {Q5 : Int32 → pg_M → Prop} {Q6 : Int32 → pg_M → Prop}
    (h0 : pg_isX5 Λ v1)
    (h1 : pg_isX9 Λ v0)
    (e0 : pg_Ev S Λ YX5_has d [.ref v1, .int v2] M (fun r M' => ∃ x, r = some (.int x) ∧ Q0 x M'))
    (k0 : ∀ x1 M1, Q0 x1 M1 → (x1 = 0) → P (some (.int 0)) M1)
    (b0 : ∀ x1 M1, Q0 x1 M1 → (¬ x1 = 0) → vp_in v2 6)
    (k1 : ∀ x1 M1, Q0 x1 M1 → (¬ x1 = 0) → (¬ (M1.1 (v0 + 3) v2.toNatClampNeg) = 0) → P (some (.int 0)) M1)
    (e1 : ∀ x1 M1, Q0 x1 M1 → (¬ x1 = 0) → ((M1.1 (v0 + 3) v2.toNatClampNeg) = 0) → pg_Ev S Λ YX9_freePegs d [.ref v0] M1 (fun r M' => ∃ x, r = some (.int x) ∧ Q1 x M'))
    (e2 : ∀ x1 M1, Q0 x1 M1 → (¬ x1 = 0) → ((M1.1 (v0 + 3) v2.toNatClampNeg) = 0) → ∀ x2 M2, Q1 x2 M2 → ((v3 &&& (x2 ^^^ (-1))) = 0) → ((pg_bc v3) = 1) → pg_Ev S Λ YX9_roomBy d [.ref v1, .int v2, .int (pg_bc v3)] M2 (fun r M' => ∃ x, r = some (.int x) ∧ Q2 x M'))
    (e3 : ∀ x1 M1, Q0 x1 M1 → (¬ x1 = 0) → ((M1.1 (v0 + 3) v2.toNatClampNeg) = 0) → ∀ x2 M2, Q1 x2 M2 → ((v3 &&& (x2 ^^^ (-1))) = 0) → ((pg_bc v3) = 1) → ∀ x3 M3, Q2 x3 M3 → pg_Ev S Λ YX9_roomLeft d [.ref v0, .ref v1] M3 (fun r M' => ∃ x, r = some (.int x) ∧ Q3 x M'))
    (k2 : ∀ x1 M1, Q0 x1 M1 → (¬ x1 = 0) → ((M1.1 (v0 + 3) v2.toNatClampNeg) = 0) → ∀ x2 M2, Q1 x2 M2 → ((v3 &&& (x2 ^^^ (-1))) = 0) → ((pg_bc v3) = 1) → ∀ x3 M3, Q2 x3 M3 → ∀ x4 M4, Q3 x4 M4 → (x3 ≤ x4) → P (some (.int 1)) (pg_si M4 (v0 + 3) v2.toNatClampNeg v3))
    (k3 : ∀ x1 M1, Q0 x1 M1 → (¬ x1 = 0) → ((M1.1 (v0 + 3) v2.toNatClampNeg) = 0) → ∀ x2 M2, Q1 x2 M2 → ((v3 &&& (x2 ^^^ (-1))) = 0) → ((pg_bc v3) = 1) → ∀ x3 M3, Q2 x3 M3 → ∀ x4 M4, Q3 x4 M4 → (¬ x3 ≤ x4) → P (some (.int 0)) M4)
    (e4 : ∀ x1 M1, Q0 x1 M1 → (¬ x1 = 0) → ((M1.1 (v0 + 3) v2.toNatClampNeg) = 0) → ∀ x2 M2, Q1 x2 M2 → ((v3 &&& (x2 ^^^ (-1))) = 0) → (¬ (pg_bc v3) = 1) → pg_Ev S Λ YX5_pegsFor d [.ref v1, .int v2] M2 (fun r M' => ∃ x, r = some (.int x) ∧ Q4 x M'))
    (k4 : ∀ x1 M1, Q0 x1 M1 → (¬ x1 = 0) → ((M1.1 (v0 + 3) v2.toNatClampNeg) = 0) → ∀ x2 M2, Q1 x2 M2 → ((v3 &&& (x2 ^^^ (-1))) = 0) → (¬ (pg_bc v3) = 1) → ∀ x5 M5, Q4 x5 M5 → (¬ (pg_bc v3) = x5) → P (some (.int 0)) M5)
    (e5 : ∀ x1 M1, Q0 x1 M1 → (¬ x1 = 0) → ((M1.1 (v0 + 3) v2.toNatClampNeg) = 0) → ∀ x2 M2, Q1 x2 M2 → ((v3 &&& (x2 ^^^ (-1))) = 0) → (¬ (pg_bc v3) = 1) → ∀ x5 M5, Q4 x5 M5 → ((pg_bc v3) = x5) → pg_Ev S Λ YX9_roomBy d [.ref v1, .int v2, .int (pg_bc v3)] M5 (fun r M' => ∃ x, r = some (.int x) ∧ Q5 x M'))
    (e6 : ∀ x1 M1, Q0 x1 M1 → (¬ x1 = 0) → ((M1.1 (v0 + 3) v2.toNatClampNeg) = 0) → ∀ x2 M2, Q1 x2 M2 → ((v3 &&& (x2 ^^^ (-1))) = 0) → (¬ (pg_bc v3) = 1) → ∀ x5 M5, Q4 x5 M5 → ((pg_bc v3) = x5) → ∀ x6 M6, Q5 x6 M6 → pg_Ev S Λ YX9_roomLeft d [.ref v0, .ref v1] M6 (fun r M' => ∃ x, r = some (.int x) ∧ Q6 x M'))
    (k5 : ∀ x1 M1, Q0 x1 M1 → (¬ x1 = 0) → ((M1.1 (v0 + 3) v2.toNatClampNeg) = 0) → ∀ x2 M2, Q1 x2 M2 → ((v3 &&& (x2 ^^^ (-1))) = 0) → (¬ (pg_bc v3) = 1) → ∀ x5 M5, Q4 x5 M5 → ((pg_bc v3) = x5) → ∀ x6 M6, Q5 x6 M6 → ∀ x7 M7, Q6 x7 M7 → (x6 ≤ x7) → P (some (.int 1)) (pg_si M7 (v0 + 3) v2.toNatClampNeg v3))
    (k6 : ∀ x1 M1, Q0 x1 M1 → (¬ x1 = 0) → ((M1.1 (v0 + 3) v2.toNatClampNeg) = 0) → ∀ x2 M2, Q1 x2 M2 → ((v3 &&& (x2 ^^^ (-1))) = 0) → (¬ (pg_bc v3) = 1) → ∀ x5 M5, Q4 x5 M5 → ((pg_bc v3) = x5) → ∀ x6 M6, Q5 x6 M6 → ∀ x7 M7, Q6 x7 M7 → (¬ x6 ≤ x7) → P (some (.int 0)) M7)
    (k7 : ∀ x1 M1, Q0 x1 M1 → (¬ x1 = 0) → ((M1.1 (v0 + 3) v2.toNatClampNeg) = 0) → ∀ x2 M2, Q1 x2 M2 → (¬ (v3 &&& (x2 ^^^ (-1))) = 0) → P (some (.int 0)) M2) :
    pg_At S Λ YX9_hangUp (d + 1) 0 [(0, .ref v0), (1, .ref v1), (2, .int v2), (3, .int v3)] [] M P := by
  refine pg_aload_n (pc := 0) (i := 1) (j := 1) (x := v1) dX9_hangUp_0 rfl rfl ?_
  refine pg_iload_n (pc := 1) (i := 2) (j := 2) (x := v2) dX9_hangUp_1 rfl rfl ?_
  refine pg_callV (pc := 2) (As := [.int v2]) (st := []) okX5_has lkX9_104 rfl h0.1 rfl (Nat.le_refl _) (Nat.le_of_ble_eq_true rfl) e0 dX9_hangUp_2 (fun r1 M1 w1 => ?_)
  obtain ⟨x1, rfl, w1⟩ := w1
  refine pg_if_eq (pc := 5) (tgt := 28) dX9_hangUp_5 (by decide) (fun c0 => ?_) (fun c0 => ?_)
  · skip
    refine pg_iconst (pc := 28) (v := 0) dX9_hangUp_28 (by decide) ?_
    exact pg_zret (pc := 29) rfl rfl dX9_hangUp_29 (k0 x1 M1 w1 c0)
  · skip
    refine pg_aload_n (pc := 8) (i := 0) (j := 0) (x := v0) dX9_hangUp_8 rfl rfl ?_
    refine gfX9_18 (pc := 9) rfl h1 dX9_hangUp_9 ?_
    refine pg_iload_n (pc := 12) (i := 2) (j := 2) (x := v2) dX9_hangUp_12 rfl rfl ?_
    refine pg_iald (pc := 13) h1.2.2.2.1 (b0 x1 M1 w1 c0) dX9_hangUp_13 ?_
    refine pg_if_ne (pc := 14) (tgt := 28) dX9_hangUp_14 (by decide) (fun c1 => ?_) (fun c1 => ?_)
    · skip
      refine pg_iconst (pc := 28) (v := 0) dX9_hangUp_28 (by decide) ?_
      exact pg_zret (pc := 29) rfl rfl dX9_hangUp_29 (k1 x1 M1 w1 c0 c1)
    · skip
      refine pg_iload_n (pc := 17) (i := 3) (j := 3) (x := v3) dX9_hangUp_17 rfl rfl ?_
      refine pg_aload_n (pc := 18) (i := 0) (j := 0) (x := v0) dX9_hangUp_18 rfl rfl ?_
      refine pg_callV (pc := 19) (As := []) (st := [.int v3]) okX9_freePegs lkX9_89 rfl h1.1 rfl (Nat.le_refl _) (Nat.le_of_ble_eq_true rfl) (e1 x1 M1 w1 c0 c1) dX9_hangUp_19 (fun r2 M2 w2 => ?_)
      obtain ⟨x2, rfl, w2⟩ := w2
      refine pg_iconst (pc := 22) (v := (-1)) dX9_hangUp_22 (by decide) ?_
      refine pg_ixor (pc := 23) dX9_hangUp_23 ?_
      refine pg_iand (pc := 24) dX9_hangUp_24 ?_
      refine pg_if_eq (pc := 25) (tgt := 30) dX9_hangUp_25 (by decide) (fun c2 => ?_) (fun c2 => ?_)
      · skip
        refine pg_iload_n (pc := 30) (i := 3) (j := 3) (x := v3) dX9_hangUp_30 rfl rfl ?_
        refine pg_jbc (pc := 31) (st := []) lkX9_47 (Nat.le_of_ble_eq_true rfl) dX9_hangUp_31 ?_
        refine pg_istore (pc := 34) (i := 4) (ls' := [(4, .int (pg_bc v3)), (0, .ref v0), (1, .ref v1), (2, .int v2), (3, .int v3)]) dX9_hangUp_34 (by decide) rfl ?_
        refine pg_iload (pc := 36) (i := 4) (j := 0) (x := (pg_bc v3)) dX9_hangUp_36 rfl ?_
        refine pg_iconst (pc := 38) (v := 1) dX9_hangUp_38 (by decide) ?_
        refine pg_icmp_eq (pc := 39) (tgt := 52) dX9_hangUp_39 (by decide) (fun c3 => ?_) (fun c3 => ?_)
        · skip
          refine pg_aload_n (pc := 52) (i := 1) (j := 2) (x := v1) dX9_hangUp_52 rfl rfl ?_
          refine pg_iload_n (pc := 53) (i := 2) (j := 3) (x := v2) dX9_hangUp_53 rfl rfl ?_
          refine pg_iload (pc := 54) (i := 4) (j := 0) (x := (pg_bc v3)) dX9_hangUp_54 rfl ?_
          refine pg_callS (pc := 56) (As := [.ref v1, .int v2, .int (pg_bc v3)]) (st := []) okX9_roomBy lkX9_74 rfl (Nat.le_refl _) (Nat.le_of_ble_eq_true rfl) (e2 x1 M1 w1 c0 c1 x2 M2 w2 c2 c3) dX9_hangUp_56 (fun r3 M3 w3 => ?_)
          obtain ⟨x3, rfl, w3⟩ := w3
          refine pg_aload_n (pc := 59) (i := 0) (j := 1) (x := v0) dX9_hangUp_59 rfl rfl ?_
          refine pg_aload_n (pc := 60) (i := 1) (j := 2) (x := v1) dX9_hangUp_60 rfl rfl ?_
          refine pg_callV (pc := 61) (As := [.ref v1]) (st := [.int x3]) okX9_roomLeft lkX9_107 rfl h1.1 rfl (Nat.le_refl _) (Nat.le_of_ble_eq_true rfl) (e3 x1 M1 w1 c0 c1 x2 M2 w2 c2 c3 x3 M3 w3) dX9_hangUp_61 (fun r4 M4 w4 => ?_)
          obtain ⟨x4, rfl, w4⟩ := w4
          refine pg_icmp_le (pc := 64) (tgt := 69) dX9_hangUp_64 (by decide) (fun c4 => ?_) (fun c4 => ?_)
          · skip
            refine pg_aload_n (pc := 69) (i := 0) (j := 1) (x := v0) dX9_hangUp_69 rfl rfl ?_
            refine gfX9_18 (pc := 70) rfl h1 dX9_hangUp_70 ?_
            refine pg_iload_n (pc := 73) (i := 2) (j := 3) (x := v2) dX9_hangUp_73 rfl rfl ?_
            refine pg_iload_n (pc := 74) (i := 3) (j := 4) (x := v3) dX9_hangUp_74 rfl rfl ?_
            refine pg_iast (pc := 75) h1.2.2.2.1 (b0 x1 M1 w1 c0) dX9_hangUp_75 ?_
            refine pg_iconst (pc := 76) (v := 1) dX9_hangUp_76 (by decide) ?_
            exact pg_zret (pc := 77) rfl rfl dX9_hangUp_77 (k2 x1 M1 w1 c0 c1 x2 M2 w2 c2 c3 x3 M3 w3 x4 M4 w4 c4)
          · skip
            refine pg_iconst (pc := 67) (v := 0) dX9_hangUp_67 (by decide) ?_
            exact pg_zret (pc := 68) rfl rfl dX9_hangUp_68 (k3 x1 M1 w1 c0 c1 x2 M2 w2 c2 c3 x3 M3 w3 x4 M4 w4 c4)
        · skip
          refine pg_iload (pc := 42) (i := 4) (j := 0) (x := (pg_bc v3)) dX9_hangUp_42 rfl ?_
          refine pg_aload_n (pc := 44) (i := 1) (j := 2) (x := v1) dX9_hangUp_44 rfl rfl ?_
          refine pg_iload_n (pc := 45) (i := 2) (j := 3) (x := v2) dX9_hangUp_45 rfl rfl ?_
          refine pg_callV (pc := 46) (As := [.int v2]) (st := [.int (pg_bc v3)]) okX5_pegsFor lkX9_53 rfl h0.1 rfl (Nat.le_refl _) (Nat.le_of_ble_eq_true rfl) (e4 x1 M1 w1 c0 c1 x2 M2 w2 c2 c3) dX9_hangUp_46 (fun r5 M5 w5 => ?_)
          obtain ⟨x5, rfl, w5⟩ := w5
          refine pg_icmp_ne (pc := 49) (tgt := 67) dX9_hangUp_49 (by decide) (fun c4 => ?_) (fun c4 => ?_)
          · skip
            refine pg_iconst (pc := 67) (v := 0) dX9_hangUp_67 (by decide) ?_
            exact pg_zret (pc := 68) rfl rfl dX9_hangUp_68 (k4 x1 M1 w1 c0 c1 x2 M2 w2 c2 c3 x5 M5 w5 c4)
          · skip
            refine pg_aload_n (pc := 52) (i := 1) (j := 2) (x := v1) dX9_hangUp_52 rfl rfl ?_
            refine pg_iload_n (pc := 53) (i := 2) (j := 3) (x := v2) dX9_hangUp_53 rfl rfl ?_
            refine pg_iload (pc := 54) (i := 4) (j := 0) (x := (pg_bc v3)) dX9_hangUp_54 rfl ?_
            refine pg_callS (pc := 56) (As := [.ref v1, .int v2, .int (pg_bc v3)]) (st := []) okX9_roomBy lkX9_74 rfl (Nat.le_refl _) (Nat.le_of_ble_eq_true rfl) (e5 x1 M1 w1 c0 c1 x2 M2 w2 c2 c3 x5 M5 w5 c4) dX9_hangUp_56 (fun r6 M6 w6 => ?_)
            obtain ⟨x6, rfl, w6⟩ := w6
            refine pg_aload_n (pc := 59) (i := 0) (j := 1) (x := v0) dX9_hangUp_59 rfl rfl ?_
            refine pg_aload_n (pc := 60) (i := 1) (j := 2) (x := v1) dX9_hangUp_60 rfl rfl ?_
            refine pg_callV (pc := 61) (As := [.ref v1]) (st := [.int x6]) okX9_roomLeft lkX9_107 rfl h1.1 rfl (Nat.le_refl _) (Nat.le_of_ble_eq_true rfl) (e6 x1 M1 w1 c0 c1 x2 M2 w2 c2 c3 x5 M5 w5 c4 x6 M6 w6) dX9_hangUp_61 (fun r7 M7 w7 => ?_)
            obtain ⟨x7, rfl, w7⟩ := w7
            refine pg_icmp_le (pc := 64) (tgt := 69) dX9_hangUp_64 (by decide) (fun c5 => ?_) (fun c5 => ?_)
            · skip
              refine pg_aload_n (pc := 69) (i := 0) (j := 1) (x := v0) dX9_hangUp_69 rfl rfl ?_
              refine gfX9_18 (pc := 70) rfl h1 dX9_hangUp_70 ?_
              refine pg_iload_n (pc := 73) (i := 2) (j := 3) (x := v2) dX9_hangUp_73 rfl rfl ?_
              refine pg_iload_n (pc := 74) (i := 3) (j := 4) (x := v3) dX9_hangUp_74 rfl rfl ?_
              refine pg_iast (pc := 75) h1.2.2.2.1 (b0 x1 M1 w1 c0) dX9_hangUp_75 ?_
              refine pg_iconst (pc := 76) (v := 1) dX9_hangUp_76 (by decide) ?_
              exact pg_zret (pc := 77) rfl rfl dX9_hangUp_77 (k5 x1 M1 w1 c0 c1 x2 M2 w2 c2 c3 x5 M5 w5 c4 x6 M6 w6 x7 M7 w7 c5)
            · skip
              refine pg_iconst (pc := 67) (v := 0) dX9_hangUp_67 (by decide) ?_
              exact pg_zret (pc := 68) rfl rfl dX9_hangUp_68 (k6 x1 M1 w1 c0 c1 x2 M2 w2 c2 c3 x5 M5 w5 c4 x6 M6 w6 x7 M7 w7 c5)
      · skip
        refine pg_iconst (pc := 28) (v := 0) dX9_hangUp_28 (by decide) ?_
        exact pg_zret (pc := 29) rfl rfl dX9_hangUp_29 (k7 x1 M1 w1 c0 c1 x2 M2 w2 c2)
theorem oX9_hangUp {d : Nat} {v0 : Nat} {v1 : Nat} {v2 : Int32} {v3 : Int32} (h : pg_At S Λ YX9_hangUp d 0 [(0, .ref v0), (1, .ref v1), (2, .int v2), (3, .int v3)] [] M P) : pg_Ev S Λ YX9_hangUp d [.ref v0, .ref v1, .int v2, .int v3] M P := pg_Ev.of (by decide) (by first | decide | exact Nat.le_of_ble_eq_true rfl) h
theorem sX9_takeIn_0 {v0 : Nat} {v1 : Nat} {v2 : Int32} {Q0 : Int32 → pg_M → Prop}
    (h0 : pg_isX5 Λ v1)
    (h1 : pg_isX9 Λ v0)
    (e0 : pg_Ev S Λ YX5_has d [.ref v1, .int v2] M (fun r M' => ∃ x, r = some (.int x) ∧ Q0 x M'))
    (k0 : ∀ x1 M1, Q0 x1 M1 → (x1 = 0) → P (some (.int 0)) M1)
    (b0 : ∀ x1 M1, Q0 x1 M1 → (¬ x1 = 0) → vp_in v2 6)
    (k1 : ∀ x1 M1, Q0 x1 M1 → (¬ x1 = 0) → (¬ (M1.1 (v0 + 3) v2.toNatClampNeg) = 0) → P (some (.int 1)) (pg_si M1 (v0 + 3) v2.toNatClampNeg 0))
    (k2 : ∀ x1 M1, Q0 x1 M1 → (¬ x1 = 0) → ((M1.1 (v0 + 3) v2.toNatClampNeg) = 0) → P (some (.int 0)) M1) :
    pg_At S Λ YX9_takeIn (d + 1) 0 [(0, .ref v0), (1, .ref v1), (2, .int v2)] [] M P := by
  refine pg_aload_n (pc := 0) (i := 1) (j := 1) (x := v1) dX9_takeIn_0 rfl rfl ?_
  refine pg_iload_n (pc := 1) (i := 2) (j := 2) (x := v2) dX9_takeIn_1 rfl rfl ?_
  refine pg_callV (pc := 2) (As := [.int v2]) (st := []) okX5_has lkX9_104 rfl h0.1 rfl (Nat.le_refl _) (Nat.le_of_ble_eq_true rfl) e0 dX9_takeIn_2 (fun r1 M1 w1 => ?_)
  obtain ⟨x1, rfl, w1⟩ := w1
  refine pg_if_eq (pc := 5) (tgt := 17) dX9_takeIn_5 (by decide) (fun c0 => ?_) (fun c0 => ?_)
  · skip
    refine pg_iconst (pc := 17) (v := 0) dX9_takeIn_17 (by decide) ?_
    exact pg_zret (pc := 18) rfl rfl dX9_takeIn_18 (k0 x1 M1 w1 c0)
  · skip
    refine pg_aload_n (pc := 8) (i := 0) (j := 0) (x := v0) dX9_takeIn_8 rfl rfl ?_
    refine gfX9_18 (pc := 9) rfl h1 dX9_takeIn_9 ?_
    refine pg_iload_n (pc := 12) (i := 2) (j := 2) (x := v2) dX9_takeIn_12 rfl rfl ?_
    refine pg_iald (pc := 13) h1.2.2.2.1 (b0 x1 M1 w1 c0) dX9_takeIn_13 ?_
    refine pg_if_ne (pc := 14) (tgt := 19) dX9_takeIn_14 (by decide) (fun c1 => ?_) (fun c1 => ?_)
    · skip
      refine pg_aload_n (pc := 19) (i := 0) (j := 0) (x := v0) dX9_takeIn_19 rfl rfl ?_
      refine gfX9_18 (pc := 20) rfl h1 dX9_takeIn_20 ?_
      refine pg_iload_n (pc := 23) (i := 2) (j := 2) (x := v2) dX9_takeIn_23 rfl rfl ?_
      refine pg_iconst (pc := 24) (v := 0) dX9_takeIn_24 (by decide) ?_
      refine pg_iast (pc := 25) h1.2.2.2.1 (b0 x1 M1 w1 c0) dX9_takeIn_25 ?_
      refine pg_iconst (pc := 26) (v := 1) dX9_takeIn_26 (by decide) ?_
      exact pg_zret (pc := 27) rfl rfl dX9_takeIn_27 (k1 x1 M1 w1 c0 c1)
    · skip
      refine pg_iconst (pc := 17) (v := 0) dX9_takeIn_17 (by decide) ?_
      exact pg_zret (pc := 18) rfl rfl dX9_takeIn_18 (k2 x1 M1 w1 c0 c1)
theorem oX9_takeIn {d : Nat} {v0 : Nat} {v1 : Nat} {v2 : Int32} (h : pg_At S Λ YX9_takeIn d 0 [(0, .ref v0), (1, .ref v1), (2, .int v2)] [] M P) : pg_Ev S Λ YX9_takeIn d [.ref v0, .ref v1, .int v2] M P := pg_Ev.of (by decide) (by first | decide | exact Nat.le_of_ble_eq_true rfl) h
theorem sX9_washOut_0 {v0 : Nat} {v1 : Nat} {v2 : Int32} {Q0 : Int32 → pg_M → Prop}
    (h0 : pg_isX5 Λ v1)
    (h1 : pg_isX9 Λ v0)
    (e0 : pg_Ev S Λ YX5_has d [.ref v1, .int v2] M (fun r M' => ∃ x, r = some (.int x) ∧ Q0 x M'))
    (k0 : ∀ x1 M1, Q0 x1 M1 → (x1 = 0) → P (some (.int (-1))) M1)
    (b0 : ∀ x1 M1, Q0 x1 M1 → (¬ x1 = 0) → vp_in v2 6)
    (k1 : ∀ x1 M1, Q0 x1 M1 → (¬ x1 = 0) → ((M1.1 (v0 + 3) v2.toNatClampNeg) = 0) → P (some (.int (M1.1 (v0 + 2) v2.toNatClampNeg))) (pg_si (pg_si M1 (v0 + 2) v2.toNatClampNeg 0) (v0 + 1) v2.toNatClampNeg 9))
    (k2 : ∀ x1 M1, Q0 x1 M1 → (¬ x1 = 0) → (¬ (M1.1 (v0 + 3) v2.toNatClampNeg) = 0) → P (some (.int (-1))) M1) :
    pg_At S Λ YX9_washOut (d + 1) 0 [(0, .ref v0), (1, .ref v1), (2, .int v2)] [] M P := by
  refine pg_aload_n (pc := 0) (i := 1) (j := 1) (x := v1) dX9_washOut_0 rfl rfl ?_
  refine pg_iload_n (pc := 1) (i := 2) (j := 2) (x := v2) dX9_washOut_1 rfl rfl ?_
  refine pg_callV (pc := 2) (As := [.int v2]) (st := []) okX5_has lkX9_104 rfl h0.1 rfl (Nat.le_refl _) (Nat.le_of_ble_eq_true rfl) e0 dX9_washOut_2 (fun r1 M1 w1 => ?_)
  obtain ⟨x1, rfl, w1⟩ := w1
  refine pg_if_eq (pc := 5) (tgt := 17) dX9_washOut_5 (by decide) (fun c0 => ?_) (fun c0 => ?_)
  · skip
    refine pg_iconst (pc := 17) (v := (-1)) dX9_washOut_17 (by decide) ?_
    exact pg_iret (pc := 18) rfl dX9_washOut_18 (k0 x1 M1 w1 c0)
  · skip
    refine pg_aload_n (pc := 8) (i := 0) (j := 0) (x := v0) dX9_washOut_8 rfl rfl ?_
    refine gfX9_18 (pc := 9) rfl h1 dX9_washOut_9 ?_
    refine pg_iload_n (pc := 12) (i := 2) (j := 2) (x := v2) dX9_washOut_12 rfl rfl ?_
    refine pg_iald (pc := 13) h1.2.2.2.1 (b0 x1 M1 w1 c0) dX9_washOut_13 ?_
    refine pg_if_eq (pc := 14) (tgt := 19) dX9_washOut_14 (by decide) (fun c1 => ?_) (fun c1 => ?_)
    · skip
      refine pg_aload_n (pc := 19) (i := 0) (j := 0) (x := v0) dX9_washOut_19 rfl rfl ?_
      refine gfX9_15 (pc := 20) rfl h1 dX9_washOut_20 ?_
      refine pg_iload_n (pc := 23) (i := 2) (j := 2) (x := v2) dX9_washOut_23 rfl rfl ?_
      refine pg_iald (pc := 24) h1.2.2.1 (b0 x1 M1 w1 c0) dX9_washOut_24 ?_
      refine pg_istore_n (pc := 25) (i := 3) (ls' := [(3, .int (M1.1 (v0 + 2) v2.toNatClampNeg)), (0, .ref v0), (1, .ref v1), (2, .int v2)]) dX9_washOut_25 rfl (by decide) rfl ?_
      refine pg_aload_n (pc := 26) (i := 0) (j := 1) (x := v0) dX9_washOut_26 rfl rfl ?_
      refine gfX9_15 (pc := 27) rfl h1 dX9_washOut_27 ?_
      refine pg_iload_n (pc := 30) (i := 2) (j := 3) (x := v2) dX9_washOut_30 rfl rfl ?_
      refine pg_iconst (pc := 31) (v := 0) dX9_washOut_31 (by decide) ?_
      refine pg_iast (pc := 32) h1.2.2.1 (b0 x1 M1 w1 c0) dX9_washOut_32 ?_
      refine pg_aload_n (pc := 33) (i := 0) (j := 1) (x := v0) dX9_washOut_33 rfl rfl ?_
      refine gfX9_9 (pc := 34) rfl h1 dX9_washOut_34 ?_
      refine pg_iload_n (pc := 37) (i := 2) (j := 3) (x := v2) dX9_washOut_37 rfl rfl ?_
      refine pg_bipush (pc := 38) (v := 9) dX9_washOut_38 (by decide) ?_
      refine pg_iast (pc := 40) h1.2.1 (b0 x1 M1 w1 c0) dX9_washOut_40 ?_
      refine pg_iload_n (pc := 41) (i := 3) (j := 0) (x := (M1.1 (v0 + 2) v2.toNatClampNeg)) dX9_washOut_41 rfl rfl ?_
      exact pg_iret (pc := 42) rfl dX9_washOut_42 (k1 x1 M1 w1 c0 c1)
    · skip
      refine pg_iconst (pc := 17) (v := (-1)) dX9_washOut_17 (by decide) ?_
      exact pg_iret (pc := 18) rfl dX9_washOut_18 (k2 x1 M1 w1 c0 c1)
theorem oX9_washOut {d : Nat} {v0 : Nat} {v1 : Nat} {v2 : Int32} (h : pg_At S Λ YX9_washOut d 0 [(0, .ref v0), (1, .ref v1), (2, .int v2)] [] M P) : pg_Ev S Λ YX9_washOut d [.ref v0, .ref v1, .int v2] M P := pg_Ev.of (by decide) (by first | decide | exact Nat.le_of_ble_eq_true rfl) h
theorem sX9_addPeg_0 {v0 : Nat} {v1 : Int32} 
    (h0 : pg_isX9 Λ v0)
    (k0 : (v1 < 1) → P (some (.int (-1))) M)
    (k1 : (¬ v1 < 1) → (9 < v1) → P (some (.int (-1))) M)
    (b0 : (¬ v1 < 1) → (¬ 9 < v1) → ((M.1 v0 4) < 8) → vp_in (M.1 v0 4) 8)
    (k2 : (¬ v1 < 1) → (¬ 9 < v1) → ((M.1 v0 4) < 8) → ∀ N1, N1 = pg_si (pg_si M (v0 + 4) (M.1 v0 4).toNatClampNeg v1) v0 4 (((pg_si M (v0 + 4) (M.1 v0 4).toNatClampNeg v1).1 v0 4) + 1) → P (some (.int ((N1.1 v0 4) - 1))) N1)
    (k3 : (¬ v1 < 1) → (¬ 9 < v1) → (¬ (M.1 v0 4) < 8) → P (some (.int (-1))) M) :
    pg_At S Λ YX9_addPeg d 0 [(0, .ref v0), (1, .int v1)] [] M P := by
  refine pg_iload_n (pc := 0) (i := 1) (j := 1) (x := v1) dX9_addPeg_0 rfl rfl ?_
  refine pg_iconst (pc := 1) (v := 1) dX9_addPeg_1 (by decide) ?_
  refine pg_icmp_lt (pc := 2) (tgt := 20) dX9_addPeg_2 (by decide) (fun c0 => ?_) (fun c0 => ?_)
  · skip
    refine pg_iconst (pc := 20) (v := (-1)) dX9_addPeg_20 (by decide) ?_
    exact pg_iret (pc := 21) rfl dX9_addPeg_21 (k0 c0)
  · skip
    refine pg_iload_n (pc := 5) (i := 1) (j := 1) (x := v1) dX9_addPeg_5 rfl rfl ?_
    refine pg_bipush (pc := 6) (v := 9) dX9_addPeg_6 (by decide) ?_
    refine pg_icmp_gt (pc := 8) (tgt := 20) dX9_addPeg_8 (by decide) (fun c1 => ?_) (fun c1 => ?_)
    · skip
      refine pg_iconst (pc := 20) (v := (-1)) dX9_addPeg_20 (by decide) ?_
      exact pg_iret (pc := 21) rfl dX9_addPeg_21 (k1 c0 c1)
    · skip
      refine pg_aload_n (pc := 11) (i := 0) (j := 0) (x := v0) dX9_addPeg_11 rfl rfl ?_
      refine gfX9_43 (pc := 12) rfl h0 dX9_addPeg_12 ?_
      refine pg_bipush (pc := 15) (v := 8) dX9_addPeg_15 (by decide) ?_
      refine pg_icmp_lt (pc := 17) (tgt := 22) dX9_addPeg_17 (by decide) (fun c2 => ?_) (fun c2 => ?_)
      · skip
        refine pg_aload_n (pc := 22) (i := 0) (j := 0) (x := v0) dX9_addPeg_22 rfl rfl ?_
        refine gfX9_21 (pc := 23) rfl h0 dX9_addPeg_23 ?_
        refine pg_aload_n (pc := 26) (i := 0) (j := 0) (x := v0) dX9_addPeg_26 rfl rfl ?_
        refine gfX9_43 (pc := 27) rfl h0 dX9_addPeg_27 ?_
        refine pg_iload_n (pc := 30) (i := 1) (j := 1) (x := v1) dX9_addPeg_30 rfl rfl ?_
        refine pg_iast (pc := 31) h0.2.2.2.2 (b0 c0 c1 c2) dX9_addPeg_31 ?_
        refine pg_aload_n (pc := 32) (i := 0) (j := 0) (x := v0) dX9_addPeg_32 rfl rfl ?_
        refine pg_dup (pc := 33) dX9_addPeg_33 rfl ?_
        refine gfX9_43 (pc := 34) rfl h0 dX9_addPeg_34 ?_
        refine pg_iconst (pc := 37) (v := 1) dX9_addPeg_37 (by decide) ?_
        refine pg_iadd (pc := 38) dX9_addPeg_38 ?_
        refine pfX9_43 (pc := 39) rfl h0 dX9_addPeg_39 ?_
        refine pg_named (fun N1 u1 => ?_)
        refine pg_aload_n (pc := 42) (i := 0) (j := 0) (x := v0) dX9_addPeg_42 rfl rfl ?_
        refine gfX9_43 (pc := 43) rfl h0 dX9_addPeg_43 ?_
        refine pg_iconst (pc := 46) (v := 1) dX9_addPeg_46 (by decide) ?_
        refine pg_isub (pc := 47) dX9_addPeg_47 ?_
        exact pg_iret (pc := 48) rfl dX9_addPeg_48 (k2 c0 c1 c2 N1 u1)
      · skip
        refine pg_iconst (pc := 20) (v := (-1)) dX9_addPeg_20 (by decide) ?_
        exact pg_iret (pc := 21) rfl dX9_addPeg_21 (k3 c0 c1 c2)
theorem oX9_addPeg {d : Nat} {v0 : Nat} {v1 : Int32} (h : pg_At S Λ YX9_addPeg d 0 [(0, .ref v0), (1, .int v1)] [] M P) : pg_Ev S Λ YX9_addPeg d [.ref v0, .int v1] M P := pg_Ev.of (by decide) (by first | decide | exact Nat.le_of_ble_eq_true rfl) h
theorem sX9_passHour_0 {v0 : Nat} {v1 : Nat} {v2 : Int32} {Q0 : Int32 → pg_M → Prop}
    (h0 : pg_isX9 Λ v0)
    (h1 : pg_isX5 Λ v1)
    (e0 : pg_Ev S Λ YX5_windAt d [.ref v1, .int (M.1 v0 5)] M (fun r M' => ∃ x, r = some (.int x) ∧ Q0 x M'))
    (k0 : ∀ x1 M1, Q0 x1 M1 → pg_At S Λ YX9_passHour (d + 1) 17 [(0, .ref v0), (1, .ref v1), (3, .int (x1 + v2)), (4, .int 0), (5, .int 0)] [] M1 P) :
    pg_At S Λ YX9_passHour (d + 1) 0 [(0, .ref v0), (1, .ref v1), (2, .int v2)] [] M P := by
  refine pg_aload_n (pc := 0) (i := 1) (j := 1) (x := v1) dX9_passHour_0 rfl rfl ?_
  refine pg_aload_n (pc := 1) (i := 0) (j := 0) (x := v0) dX9_passHour_1 rfl rfl ?_
  refine gfX9_44 (pc := 2) rfl h0 dX9_passHour_2 ?_
  refine pg_callV (pc := 5) (As := [.int (M.1 v0 5)]) (st := []) okX5_windAt lkX9_110 rfl h1.1 rfl (Nat.le_refl _) (Nat.le_of_ble_eq_true rfl) e0 dX9_passHour_5 (fun r1 M1 w1 => ?_)
  obtain ⟨x1, rfl, w1⟩ := w1
  refine pg_iload_n (pc := 8) (i := 2) (j := 2) (x := v2) dX9_passHour_8 rfl rfl ?_
  refine pg_iadd (pc := 9) dX9_passHour_9 ?_
  refine pg_istore_n (pc := 10) (i := 3) (ls' := [(3, .int (x1 + v2)), (0, .ref v0), (1, .ref v1), (2, .int v2)]) dX9_passHour_10 rfl (by decide) rfl ?_
  refine pg_iconst (pc := 11) (v := 0) dX9_passHour_11 (by decide) ?_
  refine pg_istore (pc := 12) (i := 4) (ls' := [(4, .int 0), (3, .int (x1 + v2)), (0, .ref v0), (1, .ref v1), (2, .int v2)]) dX9_passHour_12 (by decide) rfl ?_
  refine pg_iconst (pc := 14) (v := 0) dX9_passHour_14 (by decide) ?_
  refine pg_istore (pc := 15) (i := 5) (ls' := [(5, .int 0), (4, .int 0), (3, .int (x1 + v2)), (0, .ref v0), (1, .ref v1), (2, .int v2)]) dX9_passHour_15 (by decide) rfl ?_
  refine pg_drop (ks := [3, 4, 2, 1, 0]) (ls' := [(0, .ref v0), (1, .ref v1), (3, .int (x1 + v2)), (4, .int 0), (5, .int 0)]) rfl ?_
  exact k0 x1 M1 w1
theorem sX9_passHour_17 {v0 : Nat} {v1 : Nat} {v3 : Int32} {v4 : Int32} {v5 : Int32} {Q0 : Int32 → pg_M → Prop}
    (h0 : pg_isX5 Λ v1)
    (h1 : pg_isX9 Λ v0)
    (k0 : ((M.1 v1 10) ≤ v5) → pg_At S Λ YX9_passHour (d + 1) 59 [(0, .ref v0), (1, .ref v1), (3, .int v3), (4, .int v4), (5, .int 0)] [] M P)
    (b0 : (¬ (M.1 v1 10) ≤ v5) → vp_in v5 6)
    (k1 : (¬ (M.1 v1 10) ≤ v5) → ((M.1 (v0 + 3) v5.toNatClampNeg) = 0) → pg_At S Λ YX9_passHour (d + 1) 17 [(0, .ref v0), (1, .ref v1), (3, .int v3), (4, .int v4), (5, .int (v5 + 1))] [] M P)
    (e0 : (¬ (M.1 v1 10) ≤ v5) → (¬ (M.1 (v0 + 3) v5.toNatClampNeg) = 0) → pg_Ev S Λ YX9_fallsBy d [.ref v0, .ref v1, .int v5, .int v3] M (fun r M' => ∃ x, r = some (.int x) ∧ Q0 x M'))
    (k2 : (¬ (M.1 v1 10) ≤ v5) → (¬ (M.1 (v0 + 3) v5.toNatClampNeg) = 0) → ∀ x1 M1, Q0 x1 M1 → (x1 = 0) → pg_At S Λ YX9_passHour (d + 1) 17 [(0, .ref v0), (1, .ref v1), (3, .int v3), (4, .int v4), (5, .int (v5 + 1))] [] M1 P)
    (k3 : (¬ (M.1 v1 10) ≤ v5) → (¬ (M.1 (v0 + 3) v5.toNatClampNeg) = 0) → ∀ x1 M1, Q0 x1 M1 → (¬ x1 = 0) → pg_At S Λ YX9_passHour (d + 1) 17 [(0, .ref v0), (1, .ref v1), (3, .int v3), (4, .int (v4 + 1)), (5, .int (v5 + 1))] [] M1 P) :
    pg_At S Λ YX9_passHour (d + 1) 17 [(0, .ref v0), (1, .ref v1), (3, .int v3), (4, .int v4), (5, .int v5)] [] M P := by
  refine pg_iload (pc := 17) (i := 5) (j := 4) (x := v5) dX9_passHour_17 rfl ?_
  refine pg_aload_n (pc := 19) (i := 1) (j := 1) (x := v1) dX9_passHour_19 rfl rfl ?_
  refine gfX9_56 (pc := 20) rfl h0 dX9_passHour_20 ?_
  refine pg_icmp_ge (pc := 23) (tgt := 56) dX9_passHour_23 (by decide) (fun c0 => ?_) (fun c0 => ?_)
  · skip
    refine pg_iconst (pc := 56) (v := 0) dX9_passHour_56 (by decide) ?_
    refine pg_istore (pc := 57) (i := 5) (ls' := [(5, .int 0), (0, .ref v0), (1, .ref v1), (3, .int v3), (4, .int v4)]) dX9_passHour_57 (by decide) rfl ?_
    refine pg_drop (ks := [1, 2, 3, 4, 0]) (ls' := [(0, .ref v0), (1, .ref v1), (3, .int v3), (4, .int v4), (5, .int 0)]) rfl ?_
    exact k0 c0
  · skip
    refine pg_aload_n (pc := 26) (i := 0) (j := 0) (x := v0) dX9_passHour_26 rfl rfl ?_
    refine gfX9_18 (pc := 27) rfl h1 dX9_passHour_27 ?_
    refine pg_iload (pc := 30) (i := 5) (j := 4) (x := v5) dX9_passHour_30 rfl ?_
    refine pg_iald (pc := 32) h1.2.2.2.1 (b0 c0) dX9_passHour_32 ?_
    refine pg_if_eq (pc := 33) (tgt := 50) dX9_passHour_33 (by decide) (fun c1 => ?_) (fun c1 => ?_)
    · skip
      refine pg_iinc (pc := 50) (i := 5) (j := 4) (x := v5) (v := v5 + 1) (ls' := [(5, .int (v5 + 1)), (0, .ref v0), (1, .ref v1), (3, .int v3), (4, .int v4)]) dX9_passHour_50 rfl rfl (by decide) rfl ?_
      refine pg_goto (pc := 53) (tgt := 17) dX9_passHour_53 (by decide) ?_
      refine pg_drop (ks := [1, 2, 3, 4, 0]) (ls' := [(0, .ref v0), (1, .ref v1), (3, .int v3), (4, .int v4), (5, .int (v5 + 1))]) rfl ?_
      exact k1 c0 c1
    · skip
      refine pg_aload_n (pc := 36) (i := 0) (j := 0) (x := v0) dX9_passHour_36 rfl rfl ?_
      refine pg_aload_n (pc := 37) (i := 1) (j := 1) (x := v1) dX9_passHour_37 rfl rfl ?_
      refine pg_iload (pc := 38) (i := 5) (j := 4) (x := v5) dX9_passHour_38 rfl ?_
      refine pg_iload_n (pc := 40) (i := 3) (j := 2) (x := v3) dX9_passHour_40 rfl rfl ?_
      refine pg_callV (pc := 41) (As := [.ref v1, .int v5, .int v3]) (st := []) okX9_fallsBy lkX9_113 rfl h1.1 rfl (Nat.le_refl _) (Nat.le_of_ble_eq_true rfl) (e0 c0 c1) dX9_passHour_41 (fun r1 M1 w1 => ?_)
      obtain ⟨x1, rfl, w1⟩ := w1
      refine pg_if_eq (pc := 44) (tgt := 50) dX9_passHour_44 (by decide) (fun c2 => ?_) (fun c2 => ?_)
      · skip
        refine pg_iinc (pc := 50) (i := 5) (j := 4) (x := v5) (v := v5 + 1) (ls' := [(5, .int (v5 + 1)), (0, .ref v0), (1, .ref v1), (3, .int v3), (4, .int v4)]) dX9_passHour_50 rfl rfl (by decide) rfl ?_
        refine pg_goto (pc := 53) (tgt := 17) dX9_passHour_53 (by decide) ?_
        refine pg_drop (ks := [1, 2, 3, 4, 0]) (ls' := [(0, .ref v0), (1, .ref v1), (3, .int v3), (4, .int v4), (5, .int (v5 + 1))]) rfl ?_
        exact k2 c0 c1 x1 M1 w1 c2
      · skip
        refine pg_iinc (pc := 47) (i := 4) (j := 3) (x := v4) (v := v4 + 1) (ls' := [(4, .int (v4 + 1)), (0, .ref v0), (1, .ref v1), (3, .int v3), (5, .int v5)]) dX9_passHour_47 rfl rfl (by decide) rfl ?_
        refine pg_iinc (pc := 50) (i := 5) (j := 4) (x := v5) (v := v5 + 1) (ls' := [(5, .int (v5 + 1)), (4, .int (v4 + 1)), (0, .ref v0), (1, .ref v1), (3, .int v3)]) dX9_passHour_50 rfl rfl (by decide) rfl ?_
        refine pg_goto (pc := 53) (tgt := 17) dX9_passHour_53 (by decide) ?_
        refine pg_drop (ks := [2, 3, 4, 1, 0]) (ls' := [(0, .ref v0), (1, .ref v1), (3, .int v3), (4, .int (v4 + 1)), (5, .int (v5 + 1))]) rfl ?_
        exact k3 c0 c1 x1 M1 w1 c2
theorem sX9_passHour_59 {v0 : Nat} {v1 : Nat} {v3 : Int32} {v4 : Int32} {v5 : Int32} {Q0 : Int32 → pg_M → Prop}
    (h0 : pg_isX5 Λ v1)
    (h1 : pg_isX9 Λ v0)
    (k0 : ((M.1 v1 10) ≤ v5) → P (some (.int v4)) (pg_si M v0 5 ((M.1 v0 5) + 1)))
    (b0 : (¬ (M.1 v1 10) ≤ v5) → vp_in v5 6)
    (k1 : (¬ (M.1 v1 10) ≤ v5) → ((M.1 (v0 + 3) v5.toNatClampNeg) = 0) → pg_At S Λ YX9_passHour (d + 1) 59 [(0, .ref v0), (1, .ref v1), (3, .int v3), (4, .int v4), (5, .int (v5 + 1))] [] M P)
    (e0 : (¬ (M.1 v1 10) ≤ v5) → (¬ (M.1 (v0 + 3) v5.toNatClampNeg) = 0) → pg_Ev S Λ YX5_wetAfter d [.ref v1, .int v5, .int (M.1 (v0 + 1) v5.toNatClampNeg), .int v3] M (fun r M' => ∃ x, r = some (.int x) ∧ Q0 x M'))
    (k2 : (¬ (M.1 v1 10) ≤ v5) → (¬ (M.1 (v0 + 3) v5.toNatClampNeg) = 0) → ∀ x1 M1, Q0 x1 M1 → pg_At S Λ YX9_passHour (d + 1) 59 [(0, .ref v0), (1, .ref v1), (3, .int v3), (4, .int v4), (5, .int (v5 + 1))] [] (pg_si M1 (v0 + 1) v5.toNatClampNeg x1) P) :
    pg_At S Λ YX9_passHour (d + 1) 59 [(0, .ref v0), (1, .ref v1), (3, .int v3), (4, .int v4), (5, .int v5)] [] M P := by
  refine pg_iload (pc := 59) (i := 5) (j := 4) (x := v5) dX9_passHour_59 rfl ?_
  refine pg_aload_n (pc := 61) (i := 1) (j := 1) (x := v1) dX9_passHour_61 rfl rfl ?_
  refine gfX9_56 (pc := 62) rfl h0 dX9_passHour_62 ?_
  refine pg_icmp_ge (pc := 65) (tgt := 105) dX9_passHour_65 (by decide) (fun c0 => ?_) (fun c0 => ?_)
  · skip
    refine pg_aload_n (pc := 105) (i := 0) (j := 0) (x := v0) dX9_passHour_105 rfl rfl ?_
    refine pg_dup (pc := 106) dX9_passHour_106 rfl ?_
    refine gfX9_44 (pc := 107) rfl h1 dX9_passHour_107 ?_
    refine pg_iconst (pc := 110) (v := 1) dX9_passHour_110 (by decide) ?_
    refine pg_iadd (pc := 111) dX9_passHour_111 ?_
    refine pfX9_44 (pc := 112) rfl h1 dX9_passHour_112 ?_
    refine pg_iload (pc := 115) (i := 4) (j := 3) (x := v4) dX9_passHour_115 rfl ?_
    exact pg_iret (pc := 117) rfl dX9_passHour_117 (k0 c0)
  · skip
    refine pg_aload_n (pc := 68) (i := 0) (j := 0) (x := v0) dX9_passHour_68 rfl rfl ?_
    refine gfX9_18 (pc := 69) rfl h1 dX9_passHour_69 ?_
    refine pg_iload (pc := 72) (i := 5) (j := 4) (x := v5) dX9_passHour_72 rfl ?_
    refine pg_iald (pc := 74) h1.2.2.2.1 (b0 c0) dX9_passHour_74 ?_
    refine pg_if_eq (pc := 75) (tgt := 99) dX9_passHour_75 (by decide) (fun c1 => ?_) (fun c1 => ?_)
    · skip
      refine pg_iinc (pc := 99) (i := 5) (j := 4) (x := v5) (v := v5 + 1) (ls' := [(5, .int (v5 + 1)), (0, .ref v0), (1, .ref v1), (3, .int v3), (4, .int v4)]) dX9_passHour_99 rfl rfl (by decide) rfl ?_
      refine pg_goto (pc := 102) (tgt := 59) dX9_passHour_102 (by decide) ?_
      refine pg_drop (ks := [1, 2, 3, 4, 0]) (ls' := [(0, .ref v0), (1, .ref v1), (3, .int v3), (4, .int v4), (5, .int (v5 + 1))]) rfl ?_
      exact k1 c0 c1
    · skip
      refine pg_aload_n (pc := 78) (i := 0) (j := 0) (x := v0) dX9_passHour_78 rfl rfl ?_
      refine gfX9_9 (pc := 79) rfl h1 dX9_passHour_79 ?_
      refine pg_iload (pc := 82) (i := 5) (j := 4) (x := v5) dX9_passHour_82 rfl ?_
      refine pg_aload_n (pc := 84) (i := 1) (j := 1) (x := v1) dX9_passHour_84 rfl rfl ?_
      refine pg_iload (pc := 85) (i := 5) (j := 4) (x := v5) dX9_passHour_85 rfl ?_
      refine pg_aload_n (pc := 87) (i := 0) (j := 0) (x := v0) dX9_passHour_87 rfl rfl ?_
      refine gfX9_9 (pc := 88) rfl h1 dX9_passHour_88 ?_
      refine pg_iload (pc := 91) (i := 5) (j := 4) (x := v5) dX9_passHour_91 rfl ?_
      refine pg_iald (pc := 93) h1.2.1 (b0 c0) dX9_passHour_93 ?_
      refine pg_iload_n (pc := 94) (i := 3) (j := 2) (x := v3) dX9_passHour_94 rfl rfl ?_
      refine pg_callV (pc := 95) (As := [.int v5, .int (M.1 (v0 + 1) v5.toNatClampNeg), .int v3]) (st := [.int v5, .ref (v0 + 1)]) okX5_wetAfter lkX9_117 rfl h0.1 rfl (Nat.le_refl _) (Nat.le_of_ble_eq_true rfl) (e0 c0 c1) dX9_passHour_95 (fun r1 M1 w1 => ?_)
      obtain ⟨x1, rfl, w1⟩ := w1
      refine pg_iast (pc := 98) h1.2.1 (b0 c0) dX9_passHour_98 ?_
      refine pg_iinc (pc := 99) (i := 5) (j := 4) (x := v5) (v := v5 + 1) (ls' := [(5, .int (v5 + 1)), (0, .ref v0), (1, .ref v1), (3, .int v3), (4, .int v4)]) dX9_passHour_99 rfl rfl (by decide) rfl ?_
      refine pg_goto (pc := 102) (tgt := 59) dX9_passHour_102 (by decide) ?_
      refine pg_drop (ks := [1, 2, 3, 4, 0]) (ls' := [(0, .ref v0), (1, .ref v1), (3, .int v3), (4, .int v4), (5, .int (v5 + 1))]) rfl ?_
      exact k2 c0 c1 x1 M1 w1
theorem oX9_passHour {d : Nat} {v0 : Nat} {v1 : Nat} {v2 : Int32} (h : pg_At S Λ YX9_passHour d 0 [(0, .ref v0), (1, .ref v1), (2, .int v2)] [] M P) : pg_Ev S Λ YX9_passHour d [.ref v0, .ref v1, .int v2] M P := pg_Ev.of (by decide) (by first | decide | exact Nat.le_of_ble_eq_true rfl) h
theorem sX9_passAlone_0 {v0 : Nat} {v1 : Nat} {v2 : Int32} {v3 : Int32} {Q0 : Int32 → pg_M → Prop} {Q1 : Int32 → pg_M → Prop} {Q2 : Int32 → pg_M → Prop}
    (h0 : pg_isX9 Λ v0)
    (h1 : pg_isX5 Λ v1)
    (e0 : pg_Ev S Λ YX5_windAt d [.ref v1, .int ((M.1 v0 5) + v3)] M (fun r M' => ∃ x, r = some (.int x) ∧ Q0 x M'))
    (e1 : ∀ x1 M1, Q0 x1 M1 → pg_Ev S Λ YX9_fallsBy d [.ref v0, .ref v1, .int v2, .int x1] M1 (fun r M' => ∃ x, r = some (.int x) ∧ Q1 x M'))
    (b0 : ∀ x1 M1, Q0 x1 M1 → ∀ x2 M2, Q1 x2 M2 → (x2 = 0) → vp_in v2 6)
    (e2 : ∀ x1 M1, Q0 x1 M1 → ∀ x2 M2, Q1 x2 M2 → (x2 = 0) → pg_Ev S Λ YX5_wetAfter d [.ref v1, .int v2, .int (M2.1 (v0 + 1) v2.toNatClampNeg), .int x1] M2 (fun r M' => ∃ x, r = some (.int x) ∧ Q2 x M'))
    (k0 : ∀ x1 M1, Q0 x1 M1 → ∀ x2 M2, Q1 x2 M2 → (x2 = 0) → ∀ x3 M3, Q2 x3 M3 → P (some (.int 0)) (pg_si M3 (v0 + 1) v2.toNatClampNeg x3))
    (k1 : ∀ x1 M1, Q0 x1 M1 → ∀ x2 M2, Q1 x2 M2 → (¬ x2 = 0) → P (some (.int 1)) M2) :
    pg_At S Λ YX9_passAlone (d + 1) 0 [(0, .ref v0), (1, .ref v1), (2, .int v2), (3, .int v3)] [] M P := by
  refine pg_aload_n (pc := 0) (i := 1) (j := 1) (x := v1) dX9_passAlone_0 rfl rfl ?_
  refine pg_aload_n (pc := 1) (i := 0) (j := 0) (x := v0) dX9_passAlone_1 rfl rfl ?_
  refine gfX9_44 (pc := 2) rfl h0 dX9_passAlone_2 ?_
  refine pg_iload_n (pc := 5) (i := 3) (j := 3) (x := v3) dX9_passAlone_5 rfl rfl ?_
  refine pg_iadd (pc := 6) dX9_passAlone_6 ?_
  refine pg_callV (pc := 7) (As := [.int ((M.1 v0 5) + v3)]) (st := []) okX5_windAt lkX9_110 rfl h1.1 rfl (Nat.le_refl _) (Nat.le_of_ble_eq_true rfl) e0 dX9_passAlone_7 (fun r1 M1 w1 => ?_)
  obtain ⟨x1, rfl, w1⟩ := w1
  refine pg_istore (pc := 10) (i := 4) (ls' := [(4, .int x1), (0, .ref v0), (1, .ref v1), (2, .int v2), (3, .int v3)]) dX9_passAlone_10 (by decide) rfl ?_
  refine pg_aload_n (pc := 12) (i := 0) (j := 1) (x := v0) dX9_passAlone_12 rfl rfl ?_
  refine pg_aload_n (pc := 13) (i := 1) (j := 2) (x := v1) dX9_passAlone_13 rfl rfl ?_
  refine pg_iload_n (pc := 14) (i := 2) (j := 3) (x := v2) dX9_passAlone_14 rfl rfl ?_
  refine pg_iload (pc := 15) (i := 4) (j := 0) (x := x1) dX9_passAlone_15 rfl ?_
  refine pg_callV (pc := 17) (As := [.ref v1, .int v2, .int x1]) (st := []) okX9_fallsBy lkX9_113 rfl h0.1 rfl (Nat.le_refl _) (Nat.le_of_ble_eq_true rfl) (e1 x1 M1 w1) dX9_passAlone_17 (fun r2 M2 w2 => ?_)
  obtain ⟨x2, rfl, w2⟩ := w2
  refine pg_if_eq (pc := 20) (tgt := 25) dX9_passAlone_20 (by decide) (fun c0 => ?_) (fun c0 => ?_)
  · skip
    refine pg_aload_n (pc := 25) (i := 0) (j := 1) (x := v0) dX9_passAlone_25 rfl rfl ?_
    refine gfX9_9 (pc := 26) rfl h0 dX9_passAlone_26 ?_
    refine pg_iload_n (pc := 29) (i := 2) (j := 3) (x := v2) dX9_passAlone_29 rfl rfl ?_
    refine pg_aload_n (pc := 30) (i := 1) (j := 2) (x := v1) dX9_passAlone_30 rfl rfl ?_
    refine pg_iload_n (pc := 31) (i := 2) (j := 3) (x := v2) dX9_passAlone_31 rfl rfl ?_
    refine pg_aload_n (pc := 32) (i := 0) (j := 1) (x := v0) dX9_passAlone_32 rfl rfl ?_
    refine gfX9_9 (pc := 33) rfl h0 dX9_passAlone_33 ?_
    refine pg_iload_n (pc := 36) (i := 2) (j := 3) (x := v2) dX9_passAlone_36 rfl rfl ?_
    refine pg_iald (pc := 37) h0.2.1 (b0 x1 M1 w1 x2 M2 w2 c0) dX9_passAlone_37 ?_
    refine pg_iload (pc := 38) (i := 4) (j := 0) (x := x1) dX9_passAlone_38 rfl ?_
    refine pg_callV (pc := 40) (As := [.int v2, .int (M2.1 (v0 + 1) v2.toNatClampNeg), .int x1]) (st := [.int v2, .ref (v0 + 1)]) okX5_wetAfter lkX9_117 rfl h1.1 rfl (Nat.le_refl _) (Nat.le_of_ble_eq_true rfl) (e2 x1 M1 w1 x2 M2 w2 c0) dX9_passAlone_40 (fun r3 M3 w3 => ?_)
    obtain ⟨x3, rfl, w3⟩ := w3
    refine pg_iast (pc := 43) h0.2.1 (b0 x1 M1 w1 x2 M2 w2 c0) dX9_passAlone_43 ?_
    refine pg_iconst (pc := 44) (v := 0) dX9_passAlone_44 (by decide) ?_
    exact pg_zret (pc := 45) rfl rfl dX9_passAlone_45 (k0 x1 M1 w1 x2 M2 w2 c0 x3 M3 w3)
  · skip
    refine pg_iconst (pc := 23) (v := 1) dX9_passAlone_23 (by decide) ?_
    exact pg_zret (pc := 24) rfl rfl dX9_passAlone_24 (k1 x1 M1 w1 x2 M2 w2 c0)
theorem oX9_passAlone {d : Nat} {v0 : Nat} {v1 : Nat} {v2 : Int32} {v3 : Int32} (h : pg_At S Λ YX9_passAlone d 0 [(0, .ref v0), (1, .ref v1), (2, .int v2), (3, .int v3)] [] M P) : pg_Ev S Λ YX9_passAlone d [.ref v0, .ref v1, .int v2, .int v3] M P := pg_Ev.of (by decide) (by first | decide | exact Nat.le_of_ble_eq_true rfl) h
theorem sX9_fallsBy_0 {v0 : Nat} {v1 : Nat} {v2 : Int32} {v3 : Int32} {Q0 : Int32 → pg_M → Prop} {Q1 : Int32 → pg_M → Prop} {Q2 : pg_M → Prop} {Q3 : Int32 → pg_M → Prop}
    (h0 : pg_isX9 Λ v0)
    (h1 : pg_isX5 Λ v1)
    (b0 : vp_in v2 6)
    (e0 : pg_Ev S Λ YX5_pullOn d [.ref v1, .int v2, .int (M.1 (v0 + 1) v2.toNatClampNeg), .int v3] M (fun r M' => ∃ x, r = some (.int x) ∧ Q0 x M'))
    (e1 : ∀ x1 M1, Q0 x1 M1 → pg_Ev S Λ YX9_gripsOf d [.ref v0, .int (M1.1 (v0 + 3) v2.toNatClampNeg)] M1 (fun r M' => ∃ x, r = some (.int x) ∧ Q1 x M'))
    (k0 : ∀ x1 M1, Q0 x1 M1 → ∀ x2 M2, Q1 x2 M2 → ((2 * x1) ≤ x2) → ((M2.1 (v0 + 3) v2.toNatClampNeg) = 0) → ∀ N1, N1 = pg_si (pg_si M2 (v0 + 1) v2.toNatClampNeg 9) (v0 + 2) v2.toNatClampNeg (pg_min 9 (((pg_si M2 (v0 + 1) v2.toNatClampNeg 9).1 (v0 + 2) v2.toNatClampNeg) + 1)) → P (some (.int 1)) N1)
    (k1 : ∀ x1 M1, Q0 x1 M1 → ∀ x2 M2, Q1 x2 M2 → ((2 * x1) ≤ x2) → (¬ (M2.1 (v0 + 3) v2.toNatClampNeg) = 0) → P (some (.int 0)) M2)
    (e2 : ∀ x1 M1, Q0 x1 M1 → ∀ x2 M2, Q1 x2 M2 → (¬ (2 * x1) ≤ x2) → pg_Ev S Λ YX9_weaken d [.ref v0, .int (M2.1 (v0 + 3) v2.toNatClampNeg)] M2 (fun r M' => r = none ∧ Q2 M'))
    (e3 : ∀ x1 M1, Q0 x1 M1 → ∀ x2 M2, Q1 x2 M2 → (¬ (2 * x1) ≤ x2) → ∀ M3, Q2 M3 → (x1 ≤ x2) → pg_Ev S Λ YX9_unsplitPegs d [.ref v0] M3 (fun r M' => ∃ x, r = some (.int x) ∧ Q3 x M'))
    (k2 : ∀ x1 M1, Q0 x1 M1 → ∀ x2 M2, Q1 x2 M2 → (¬ (2 * x1) ≤ x2) → ∀ M3, Q2 M3 → (x1 ≤ x2) → ∀ x4 M4, Q3 x4 M4 → (((pg_si M4 (v0 + 3) v2.toNatClampNeg ((M3.1 (v0 + 3) v2.toNatClampNeg) &&& x4)).1 (v0 + 3) v2.toNatClampNeg) = 0) → ∀ N2, N2 = pg_si (pg_si M4 (v0 + 3) v2.toNatClampNeg ((M3.1 (v0 + 3) v2.toNatClampNeg) &&& x4)) (v0 + 1) v2.toNatClampNeg 9 → P (some (.int 1)) (pg_si N2 (v0 + 2) v2.toNatClampNeg (pg_min 9 ((N2.1 (v0 + 2) v2.toNatClampNeg) + 1))))
    (k3 : ∀ x1 M1, Q0 x1 M1 → ∀ x2 M2, Q1 x2 M2 → (¬ (2 * x1) ≤ x2) → ∀ M3, Q2 M3 → (x1 ≤ x2) → ∀ x4 M4, Q3 x4 M4 → (¬ ((pg_si M4 (v0 + 3) v2.toNatClampNeg ((M3.1 (v0 + 3) v2.toNatClampNeg) &&& x4)).1 (v0 + 3) v2.toNatClampNeg) = 0) → P (some (.int 0)) (pg_si M4 (v0 + 3) v2.toNatClampNeg ((M3.1 (v0 + 3) v2.toNatClampNeg) &&& x4)))
    (k4 : ∀ x1 M1, Q0 x1 M1 → ∀ x2 M2, Q1 x2 M2 → (¬ (2 * x1) ≤ x2) → ∀ M3, Q2 M3 → (¬ x1 ≤ x2) → (((pg_si M3 (v0 + 3) v2.toNatClampNeg 0).1 (v0 + 3) v2.toNatClampNeg) = 0) → ∀ N3, N3 = pg_si (pg_si (pg_si M3 (v0 + 3) v2.toNatClampNeg 0) (v0 + 1) v2.toNatClampNeg 9) (v0 + 2) v2.toNatClampNeg (pg_min 9 (((pg_si (pg_si M3 (v0 + 3) v2.toNatClampNeg 0) (v0 + 1) v2.toNatClampNeg 9).1 (v0 + 2) v2.toNatClampNeg) + 1)) → P (some (.int 1)) N3)
    (k5 : ∀ x1 M1, Q0 x1 M1 → ∀ x2 M2, Q1 x2 M2 → (¬ (2 * x1) ≤ x2) → ∀ M3, Q2 M3 → (¬ x1 ≤ x2) → (¬ ((pg_si M3 (v0 + 3) v2.toNatClampNeg 0).1 (v0 + 3) v2.toNatClampNeg) = 0) → P (some (.int 0)) (pg_si M3 (v0 + 3) v2.toNatClampNeg 0)) :
    pg_At S Λ YX9_fallsBy (d + 1) 0 [(0, .ref v0), (1, .ref v1), (2, .int v2), (3, .int v3)] [] M P := by
  refine pg_aload_n (pc := 0) (i := 1) (j := 1) (x := v1) dX9_fallsBy_0 rfl rfl ?_
  refine pg_iload_n (pc := 1) (i := 2) (j := 2) (x := v2) dX9_fallsBy_1 rfl rfl ?_
  refine pg_aload_n (pc := 2) (i := 0) (j := 0) (x := v0) dX9_fallsBy_2 rfl rfl ?_
  refine gfX9_9 (pc := 3) rfl h0 dX9_fallsBy_3 ?_
  refine pg_iload_n (pc := 6) (i := 2) (j := 2) (x := v2) dX9_fallsBy_6 rfl rfl ?_
  refine pg_iald (pc := 7) h0.2.1 b0 dX9_fallsBy_7 ?_
  refine pg_iload_n (pc := 8) (i := 3) (j := 3) (x := v3) dX9_fallsBy_8 rfl rfl ?_
  refine pg_callV (pc := 9) (As := [.int v2, .int (M.1 (v0 + 1) v2.toNatClampNeg), .int v3]) (st := []) okX5_pullOn lkX9_121 rfl h1.1 rfl (Nat.le_refl _) (Nat.le_of_ble_eq_true rfl) e0 dX9_fallsBy_9 (fun r1 M1 w1 => ?_)
  obtain ⟨x1, rfl, w1⟩ := w1
  refine pg_istore (pc := 12) (i := 4) (ls' := [(4, .int x1), (0, .ref v0), (1, .ref v1), (2, .int v2), (3, .int v3)]) dX9_fallsBy_12 (by decide) rfl ?_
  refine pg_aload_n (pc := 14) (i := 0) (j := 1) (x := v0) dX9_fallsBy_14 rfl rfl ?_
  refine pg_aload_n (pc := 15) (i := 0) (j := 1) (x := v0) dX9_fallsBy_15 rfl rfl ?_
  refine gfX9_18 (pc := 16) rfl h0 dX9_fallsBy_16 ?_
  refine pg_iload_n (pc := 19) (i := 2) (j := 3) (x := v2) dX9_fallsBy_19 rfl rfl ?_
  refine pg_iald (pc := 20) h0.2.2.2.1 b0 dX9_fallsBy_20 ?_
  refine pg_callV (pc := 21) (As := [.int (M1.1 (v0 + 3) v2.toNatClampNeg)]) (st := []) okX9_gripsOf lkX9_124 rfl h0.1 rfl (Nat.le_refl _) (Nat.le_of_ble_eq_true rfl) (e1 x1 M1 w1) dX9_fallsBy_21 (fun r2 M2 w2 => ?_)
  obtain ⟨x2, rfl, w2⟩ := w2
  refine pg_istore (pc := 24) (i := 5) (ls' := [(5, .int x2), (4, .int x1), (0, .ref v0), (1, .ref v1), (2, .int v2), (3, .int v3)]) dX9_fallsBy_24 (by decide) rfl ?_
  refine pg_iconst (pc := 26) (v := 2) dX9_fallsBy_26 (by decide) ?_
  refine pg_iload (pc := 27) (i := 4) (j := 1) (x := x1) dX9_fallsBy_27 rfl ?_
  refine pg_imul (pc := 29) dX9_fallsBy_29 ?_
  refine pg_iload (pc := 30) (i := 5) (j := 0) (x := x2) dX9_fallsBy_30 rfl ?_
  refine pg_icmp_le (pc := 32) (tgt := 73) dX9_fallsBy_32 (by decide) (fun c0 => ?_) (fun c0 => ?_)
  · skip
    refine pg_aload_n (pc := 73) (i := 0) (j := 2) (x := v0) dX9_fallsBy_73 rfl rfl ?_
    refine gfX9_18 (pc := 74) rfl h0 dX9_fallsBy_74 ?_
    refine pg_iload_n (pc := 77) (i := 2) (j := 4) (x := v2) dX9_fallsBy_77 rfl rfl ?_
    refine pg_iald (pc := 78) h0.2.2.2.1 b0 dX9_fallsBy_78 ?_
    refine pg_if_eq (pc := 79) (tgt := 84) dX9_fallsBy_79 (by decide) (fun c1 => ?_) (fun c1 => ?_)
    · skip
      refine pg_aload_n (pc := 84) (i := 0) (j := 2) (x := v0) dX9_fallsBy_84 rfl rfl ?_
      refine gfX9_9 (pc := 85) rfl h0 dX9_fallsBy_85 ?_
      refine pg_iload_n (pc := 88) (i := 2) (j := 4) (x := v2) dX9_fallsBy_88 rfl rfl ?_
      refine pg_bipush (pc := 89) (v := 9) dX9_fallsBy_89 (by decide) ?_
      refine pg_iast (pc := 91) h0.2.1 b0 dX9_fallsBy_91 ?_
      refine pg_aload_n (pc := 92) (i := 0) (j := 2) (x := v0) dX9_fallsBy_92 rfl rfl ?_
      refine gfX9_15 (pc := 93) rfl h0 dX9_fallsBy_93 ?_
      refine pg_iload_n (pc := 96) (i := 2) (j := 4) (x := v2) dX9_fallsBy_96 rfl rfl ?_
      refine pg_bipush (pc := 97) (v := 9) dX9_fallsBy_97 (by decide) ?_
      refine pg_aload_n (pc := 99) (i := 0) (j := 2) (x := v0) dX9_fallsBy_99 rfl rfl ?_
      refine gfX9_15 (pc := 100) rfl h0 dX9_fallsBy_100 ?_
      refine pg_iload_n (pc := 103) (i := 2) (j := 4) (x := v2) dX9_fallsBy_103 rfl rfl ?_
      refine pg_iald (pc := 104) h0.2.2.1 b0 dX9_fallsBy_104 ?_
      refine pg_iconst (pc := 105) (v := 1) dX9_fallsBy_105 (by decide) ?_
      refine pg_iadd (pc := 106) dX9_fallsBy_106 ?_
      refine pg_jmin (pc := 107) (st := [.int v2, .ref (v0 + 2)]) lkX9_131 (Nat.le_of_ble_eq_true rfl) dX9_fallsBy_107 ?_
      refine pg_iast (pc := 110) h0.2.2.1 b0 dX9_fallsBy_110 ?_
      refine pg_named (fun N1 u1 => ?_)
      refine pg_iconst (pc := 111) (v := 1) dX9_fallsBy_111 (by decide) ?_
      exact pg_zret (pc := 112) rfl rfl dX9_fallsBy_112 (k0 x1 M1 w1 x2 M2 w2 c0 c1 N1 u1)
    · skip
      refine pg_iconst (pc := 82) (v := 0) dX9_fallsBy_82 (by decide) ?_
      exact pg_zret (pc := 83) rfl rfl dX9_fallsBy_83 (k1 x1 M1 w1 x2 M2 w2 c0 c1)
  · skip
    refine pg_aload_n (pc := 35) (i := 0) (j := 2) (x := v0) dX9_fallsBy_35 rfl rfl ?_
    refine pg_aload_n (pc := 36) (i := 0) (j := 2) (x := v0) dX9_fallsBy_36 rfl rfl ?_
    refine gfX9_18 (pc := 37) rfl h0 dX9_fallsBy_37 ?_
    refine pg_iload_n (pc := 40) (i := 2) (j := 4) (x := v2) dX9_fallsBy_40 rfl rfl ?_
    refine pg_iald (pc := 41) h0.2.2.2.1 b0 dX9_fallsBy_41 ?_
    refine pg_callV (pc := 42) (As := [.int (M2.1 (v0 + 3) v2.toNatClampNeg)]) (st := []) okX9_weaken lkX9_127 rfl h0.1 rfl (Nat.le_refl _) (Nat.le_of_ble_eq_true rfl) (e2 x1 M1 w1 x2 M2 w2 c0) dX9_fallsBy_42 (fun r3 M3 w3 => ?_)
    obtain ⟨rfl, w3⟩ := w3
    refine pg_aload_n (pc := 45) (i := 0) (j := 2) (x := v0) dX9_fallsBy_45 rfl rfl ?_
    refine gfX9_18 (pc := 46) rfl h0 dX9_fallsBy_46 ?_
    refine pg_iload_n (pc := 49) (i := 2) (j := 4) (x := v2) dX9_fallsBy_49 rfl rfl ?_
    refine pg_iload (pc := 50) (i := 4) (j := 1) (x := x1) dX9_fallsBy_50 rfl ?_
    refine pg_iload (pc := 52) (i := 5) (j := 0) (x := x2) dX9_fallsBy_52 rfl ?_
    refine pg_icmp_le (pc := 54) (tgt := 61) dX9_fallsBy_54 (by decide) (fun c1 => ?_) (fun c1 => ?_)
    · skip
      refine pg_aload_n (pc := 61) (i := 0) (j := 2) (x := v0) dX9_fallsBy_61 rfl rfl ?_
      refine gfX9_18 (pc := 62) rfl h0 dX9_fallsBy_62 ?_
      refine pg_iload_n (pc := 65) (i := 2) (j := 4) (x := v2) dX9_fallsBy_65 rfl rfl ?_
      refine pg_iald (pc := 66) h0.2.2.2.1 b0 dX9_fallsBy_66 ?_
      refine pg_aload_n (pc := 67) (i := 0) (j := 2) (x := v0) dX9_fallsBy_67 rfl rfl ?_
      refine pg_callV (pc := 68) (As := []) (st := [.int (M3.1 (v0 + 3) v2.toNatClampNeg), .int v2, .ref (v0 + 3)]) okX9_unsplitPegs lkX9_85 rfl h0.1 rfl (Nat.le_refl _) (Nat.le_of_ble_eq_true rfl) (e3 x1 M1 w1 x2 M2 w2 c0 M3 w3 c1) dX9_fallsBy_68 (fun r4 M4 w4 => ?_)
      obtain ⟨x4, rfl, w4⟩ := w4
      refine pg_iand (pc := 71) dX9_fallsBy_71 ?_
      refine pg_iast (pc := 72) h0.2.2.2.1 b0 dX9_fallsBy_72 ?_
      refine pg_aload_n (pc := 73) (i := 0) (j := 2) (x := v0) dX9_fallsBy_73 rfl rfl ?_
      refine gfX9_18 (pc := 74) rfl h0 dX9_fallsBy_74 ?_
      refine pg_iload_n (pc := 77) (i := 2) (j := 4) (x := v2) dX9_fallsBy_77 rfl rfl ?_
      refine pg_iald (pc := 78) h0.2.2.2.1 b0 dX9_fallsBy_78 ?_
      refine pg_if_eq (pc := 79) (tgt := 84) dX9_fallsBy_79 (by decide) (fun c2 => ?_) (fun c2 => ?_)
      · skip
        refine pg_aload_n (pc := 84) (i := 0) (j := 2) (x := v0) dX9_fallsBy_84 rfl rfl ?_
        refine gfX9_9 (pc := 85) rfl h0 dX9_fallsBy_85 ?_
        refine pg_iload_n (pc := 88) (i := 2) (j := 4) (x := v2) dX9_fallsBy_88 rfl rfl ?_
        refine pg_bipush (pc := 89) (v := 9) dX9_fallsBy_89 (by decide) ?_
        refine pg_iast (pc := 91) h0.2.1 b0 dX9_fallsBy_91 ?_
        refine pg_named (fun N2 u2 => ?_)
        refine pg_aload_n (pc := 92) (i := 0) (j := 2) (x := v0) dX9_fallsBy_92 rfl rfl ?_
        refine gfX9_15 (pc := 93) rfl h0 dX9_fallsBy_93 ?_
        refine pg_iload_n (pc := 96) (i := 2) (j := 4) (x := v2) dX9_fallsBy_96 rfl rfl ?_
        refine pg_bipush (pc := 97) (v := 9) dX9_fallsBy_97 (by decide) ?_
        refine pg_aload_n (pc := 99) (i := 0) (j := 2) (x := v0) dX9_fallsBy_99 rfl rfl ?_
        refine gfX9_15 (pc := 100) rfl h0 dX9_fallsBy_100 ?_
        refine pg_iload_n (pc := 103) (i := 2) (j := 4) (x := v2) dX9_fallsBy_103 rfl rfl ?_
        refine pg_iald (pc := 104) h0.2.2.1 b0 dX9_fallsBy_104 ?_
        refine pg_iconst (pc := 105) (v := 1) dX9_fallsBy_105 (by decide) ?_
        refine pg_iadd (pc := 106) dX9_fallsBy_106 ?_
        refine pg_jmin (pc := 107) (st := [.int v2, .ref (v0 + 2)]) lkX9_131 (Nat.le_of_ble_eq_true rfl) dX9_fallsBy_107 ?_
        refine pg_iast (pc := 110) h0.2.2.1 b0 dX9_fallsBy_110 ?_
        refine pg_iconst (pc := 111) (v := 1) dX9_fallsBy_111 (by decide) ?_
        exact pg_zret (pc := 112) rfl rfl dX9_fallsBy_112 (k2 x1 M1 w1 x2 M2 w2 c0 M3 w3 c1 x4 M4 w4 c2 N2 u2)
      · skip
        refine pg_iconst (pc := 82) (v := 0) dX9_fallsBy_82 (by decide) ?_
        exact pg_zret (pc := 83) rfl rfl dX9_fallsBy_83 (k3 x1 M1 w1 x2 M2 w2 c0 M3 w3 c1 x4 M4 w4 c2)
    · skip
      refine pg_iconst (pc := 57) (v := 0) dX9_fallsBy_57 (by decide) ?_
      refine pg_goto (pc := 58) (tgt := 72) dX9_fallsBy_58 (by decide) ?_
      refine pg_iast (pc := 72) h0.2.2.2.1 b0 dX9_fallsBy_72 ?_
      refine pg_aload_n (pc := 73) (i := 0) (j := 2) (x := v0) dX9_fallsBy_73 rfl rfl ?_
      refine gfX9_18 (pc := 74) rfl h0 dX9_fallsBy_74 ?_
      refine pg_iload_n (pc := 77) (i := 2) (j := 4) (x := v2) dX9_fallsBy_77 rfl rfl ?_
      refine pg_iald (pc := 78) h0.2.2.2.1 b0 dX9_fallsBy_78 ?_
      refine pg_if_eq (pc := 79) (tgt := 84) dX9_fallsBy_79 (by decide) (fun c2 => ?_) (fun c2 => ?_)
      · skip
        refine pg_aload_n (pc := 84) (i := 0) (j := 2) (x := v0) dX9_fallsBy_84 rfl rfl ?_
        refine gfX9_9 (pc := 85) rfl h0 dX9_fallsBy_85 ?_
        refine pg_iload_n (pc := 88) (i := 2) (j := 4) (x := v2) dX9_fallsBy_88 rfl rfl ?_
        refine pg_bipush (pc := 89) (v := 9) dX9_fallsBy_89 (by decide) ?_
        refine pg_iast (pc := 91) h0.2.1 b0 dX9_fallsBy_91 ?_
        refine pg_aload_n (pc := 92) (i := 0) (j := 2) (x := v0) dX9_fallsBy_92 rfl rfl ?_
        refine gfX9_15 (pc := 93) rfl h0 dX9_fallsBy_93 ?_
        refine pg_iload_n (pc := 96) (i := 2) (j := 4) (x := v2) dX9_fallsBy_96 rfl rfl ?_
        refine pg_bipush (pc := 97) (v := 9) dX9_fallsBy_97 (by decide) ?_
        refine pg_aload_n (pc := 99) (i := 0) (j := 2) (x := v0) dX9_fallsBy_99 rfl rfl ?_
        refine gfX9_15 (pc := 100) rfl h0 dX9_fallsBy_100 ?_
        refine pg_iload_n (pc := 103) (i := 2) (j := 4) (x := v2) dX9_fallsBy_103 rfl rfl ?_
        refine pg_iald (pc := 104) h0.2.2.1 b0 dX9_fallsBy_104 ?_
        refine pg_iconst (pc := 105) (v := 1) dX9_fallsBy_105 (by decide) ?_
        refine pg_iadd (pc := 106) dX9_fallsBy_106 ?_
        refine pg_jmin (pc := 107) (st := [.int v2, .ref (v0 + 2)]) lkX9_131 (Nat.le_of_ble_eq_true rfl) dX9_fallsBy_107 ?_
        refine pg_iast (pc := 110) h0.2.2.1 b0 dX9_fallsBy_110 ?_
        refine pg_named (fun N3 u3 => ?_)
        refine pg_iconst (pc := 111) (v := 1) dX9_fallsBy_111 (by decide) ?_
        exact pg_zret (pc := 112) rfl rfl dX9_fallsBy_112 (k4 x1 M1 w1 x2 M2 w2 c0 M3 w3 c1 c2 N3 u3)
      · skip
        refine pg_iconst (pc := 82) (v := 0) dX9_fallsBy_82 (by decide) ?_
        exact pg_zret (pc := 83) rfl rfl dX9_fallsBy_83 (k5 x1 M1 w1 x2 M2 w2 c0 M3 w3 c1 c2)
theorem oX9_fallsBy {d : Nat} {v0 : Nat} {v1 : Nat} {v2 : Int32} {v3 : Int32} (h : pg_At S Λ YX9_fallsBy d 0 [(0, .ref v0), (1, .ref v1), (2, .int v2), (3, .int v3)] [] M P) : pg_Ev S Λ YX9_fallsBy d [.ref v0, .ref v1, .int v2, .int v3] M P := pg_Ev.of (by decide) (by first | decide | exact Nat.le_of_ble_eq_true rfl) h
theorem sX9_weaken_0 {v0 : Nat} {v1 : Int32} 
    (k0 : pg_At S Λ YX9_weaken d 2 [(0, .ref v0), (1, .int v1), (2, .int 0)] [] M P) :
    pg_At S Λ YX9_weaken d 0 [(0, .ref v0), (1, .int v1)] [] M P := by
  refine pg_iconst (pc := 0) (v := 0) dX9_weaken_0 (by decide) ?_
  refine pg_istore_n (pc := 1) (i := 2) (ls' := [(2, .int 0), (0, .ref v0), (1, .int v1)]) dX9_weaken_1 rfl (by decide) rfl ?_
  refine pg_drop (ks := [1, 2, 0]) (ls' := [(0, .ref v0), (1, .int v1), (2, .int 0)]) rfl ?_
  exact k0
theorem sX9_weaken_2 {v0 : Nat} {v1 : Int32} {v2 : Int32} 
    (h0 : pg_isX9 Λ v0)
    (k0 : ((M.1 v0 4) ≤ v2) → P none M)
    (k1 : (¬ (M.1 v0 4) ≤ v2) → (((v1 >>> (v2 &&& 31)) &&& 1) = 0) → pg_At S Λ YX9_weaken d 2 [(0, .ref v0), (1, .int v1), (2, .int (v2 + 1))] [] M P)
    (b0 : (¬ (M.1 v0 4) ≤ v2) → (¬ ((v1 >>> (v2 &&& 31)) &&& 1) = 0) → vp_in v2 8)
    (k2 : (¬ (M.1 v0 4) ≤ v2) → (¬ ((v1 >>> (v2 &&& 31)) &&& 1) = 0) → ((M.1 (v0 + 4) v2.toNatClampNeg) ≤ 0) → pg_At S Λ YX9_weaken d 2 [(0, .ref v0), (1, .int v1), (2, .int (v2 + 1))] [] M P)
    (k3 : (¬ (M.1 v0 4) ≤ v2) → (¬ ((v1 >>> (v2 &&& 31)) &&& 1) = 0) → (¬ (M.1 (v0 + 4) v2.toNatClampNeg) ≤ 0) → pg_At S Λ YX9_weaken d 2 [(0, .ref v0), (1, .int v1), (2, .int (v2 + 1))] [] (pg_si M (v0 + 4) v2.toNatClampNeg ((M.1 (v0 + 4) v2.toNatClampNeg) - 1)) P) :
    pg_At S Λ YX9_weaken d 2 [(0, .ref v0), (1, .int v1), (2, .int v2)] [] M P := by
  refine pg_iload_n (pc := 2) (i := 2) (j := 2) (x := v2) dX9_weaken_2 rfl rfl ?_
  refine pg_aload_n (pc := 3) (i := 0) (j := 0) (x := v0) dX9_weaken_3 rfl rfl ?_
  refine gfX9_43 (pc := 4) rfl h0 dX9_weaken_4 ?_
  refine pg_icmp_ge (pc := 7) (tgt := 43) dX9_weaken_7 (by decide) (fun c0 => ?_) (fun c0 => ?_)
  · skip
    exact pg_vret (pc := 43) rfl dX9_weaken_43 (k0 c0)
  · skip
    refine pg_iload_n (pc := 10) (i := 1) (j := 1) (x := v1) dX9_weaken_10 rfl rfl ?_
    refine pg_iload_n (pc := 11) (i := 2) (j := 2) (x := v2) dX9_weaken_11 rfl rfl ?_
    refine pg_ishr (pc := 12) dX9_weaken_12 ?_
    refine pg_iconst (pc := 13) (v := 1) dX9_weaken_13 (by decide) ?_
    refine pg_iand (pc := 14) dX9_weaken_14 ?_
    refine pg_if_eq (pc := 15) (tgt := 37) dX9_weaken_15 (by decide) (fun c1 => ?_) (fun c1 => ?_)
    · skip
      refine pg_iinc (pc := 37) (i := 2) (j := 2) (x := v2) (v := v2 + 1) (ls' := [(2, .int (v2 + 1)), (0, .ref v0), (1, .int v1)]) dX9_weaken_37 rfl rfl (by decide) rfl ?_
      refine pg_goto (pc := 40) (tgt := 2) dX9_weaken_40 (by decide) ?_
      refine pg_drop (ks := [1, 2, 0]) (ls' := [(0, .ref v0), (1, .int v1), (2, .int (v2 + 1))]) rfl ?_
      exact k1 c0 c1
    · skip
      refine pg_aload_n (pc := 18) (i := 0) (j := 0) (x := v0) dX9_weaken_18 rfl rfl ?_
      refine gfX9_21 (pc := 19) rfl h0 dX9_weaken_19 ?_
      refine pg_iload_n (pc := 22) (i := 2) (j := 2) (x := v2) dX9_weaken_22 rfl rfl ?_
      refine pg_iald (pc := 23) h0.2.2.2.2 (b0 c0 c1) dX9_weaken_23 ?_
      refine pg_if_le (pc := 24) (tgt := 37) dX9_weaken_24 (by decide) (fun c2 => ?_) (fun c2 => ?_)
      · skip
        refine pg_iinc (pc := 37) (i := 2) (j := 2) (x := v2) (v := v2 + 1) (ls' := [(2, .int (v2 + 1)), (0, .ref v0), (1, .int v1)]) dX9_weaken_37 rfl rfl (by decide) rfl ?_
        refine pg_goto (pc := 40) (tgt := 2) dX9_weaken_40 (by decide) ?_
        refine pg_drop (ks := [1, 2, 0]) (ls' := [(0, .ref v0), (1, .int v1), (2, .int (v2 + 1))]) rfl ?_
        exact k2 c0 c1 c2
      · skip
        refine pg_aload_n (pc := 27) (i := 0) (j := 0) (x := v0) dX9_weaken_27 rfl rfl ?_
        refine gfX9_21 (pc := 28) rfl h0 dX9_weaken_28 ?_
        refine pg_iload_n (pc := 31) (i := 2) (j := 2) (x := v2) dX9_weaken_31 rfl rfl ?_
        refine pg_dup2_11 (pc := 32) dX9_weaken_32 rfl rfl ?_
        refine pg_iald (pc := 33) h0.2.2.2.2 (b0 c0 c1) dX9_weaken_33 ?_
        refine pg_iconst (pc := 34) (v := 1) dX9_weaken_34 (by decide) ?_
        refine pg_isub (pc := 35) dX9_weaken_35 ?_
        refine pg_iast (pc := 36) h0.2.2.2.2 (b0 c0 c1) dX9_weaken_36 ?_
        refine pg_iinc (pc := 37) (i := 2) (j := 2) (x := v2) (v := v2 + 1) (ls' := [(2, .int (v2 + 1)), (0, .ref v0), (1, .int v1)]) dX9_weaken_37 rfl rfl (by decide) rfl ?_
        refine pg_goto (pc := 40) (tgt := 2) dX9_weaken_40 (by decide) ?_
        refine pg_drop (ks := [1, 2, 0]) (ls' := [(0, .ref v0), (1, .int v1), (2, .int (v2 + 1))]) rfl ?_
        exact k3 c0 c1 c2
theorem oX9_weaken {d : Nat} {v0 : Nat} {v1 : Int32} (h : pg_At S Λ YX9_weaken d 0 [(0, .ref v0), (1, .int v1)] [] M P) : pg_Ev S Λ YX9_weaken d [.ref v0, .int v1] M P := pg_Ev.of (by decide) (by first | decide | exact Nat.le_of_ble_eq_true rfl) h
theorem sX9_roomBy_0 {v0 : Nat} {v1 : Int32} {v2 : Int32} 
    (h0 : pg_isX5 Λ v0)
    (b0 : (¬ v2 = 0) → (¬ v2 = 1) → vp_in v1 6)
    (k0 : (¬ v2 = 0) → (¬ v2 = 1) → P (some (.int (M.1 (v0 + 3) v1.toNatClampNeg))) M)
    (b1 : (¬ v2 = 0) → (v2 = 1) → vp_in v1 6)
    (k1 : (¬ v2 = 0) → (v2 = 1) → P (some (.int (((M.1 (v0 + 3) v1.toNatClampNeg) / 2) + 1))) M)
    (k2 : (v2 = 0) → P (some (.int 0)) M) :
    pg_At S Λ YX9_roomBy d 0 [(0, .ref v0), (1, .int v1), (2, .int v2)] [] M P := by
  refine pg_iload_n (pc := 0) (i := 2) (j := 2) (x := v2) dX9_roomBy_0 rfl rfl ?_
  refine pg_if_ne (pc := 1) (tgt := 6) dX9_roomBy_1 (by decide) (fun c0 => ?_) (fun c0 => ?_)
  · skip
    refine pg_iload_n (pc := 6) (i := 2) (j := 2) (x := v2) dX9_roomBy_6 rfl rfl ?_
    refine pg_iconst (pc := 7) (v := 1) dX9_roomBy_7 (by decide) ?_
    refine pg_icmp_ne (pc := 8) (tgt := 24) dX9_roomBy_8 (by decide) (fun c1 => ?_) (fun c1 => ?_)
    · skip
      refine pg_aload_n (pc := 24) (i := 0) (j := 0) (x := v0) dX9_roomBy_24 rfl rfl ?_
      refine gfX9_134 (pc := 25) rfl h0 dX9_roomBy_25 ?_
      refine pg_iload_n (pc := 28) (i := 1) (j := 1) (x := v1) dX9_roomBy_28 rfl rfl ?_
      refine pg_iald (pc := 29) h0.2.2.2.1 (b0 c0 c1) dX9_roomBy_29 ?_
      exact pg_iret (pc := 30) rfl dX9_roomBy_30 (k0 c0 c1)
    · skip
      refine pg_aload_n (pc := 11) (i := 0) (j := 0) (x := v0) dX9_roomBy_11 rfl rfl ?_
      refine gfX9_134 (pc := 12) rfl h0 dX9_roomBy_12 ?_
      refine pg_iload_n (pc := 15) (i := 1) (j := 1) (x := v1) dX9_roomBy_15 rfl rfl ?_
      refine pg_iald (pc := 16) h0.2.2.2.1 (b1 c0 c1) dX9_roomBy_16 ?_
      refine pg_iconst (pc := 17) (v := 2) dX9_roomBy_17 (by decide) ?_
      refine pg_idiv (pc := 18) dX9_roomBy_18 (by decide) ?_
      refine pg_iconst (pc := 19) (v := 1) dX9_roomBy_19 (by decide) ?_
      refine pg_iadd (pc := 20) dX9_roomBy_20 ?_
      refine pg_goto (pc := 21) (tgt := 30) dX9_roomBy_21 (by decide) ?_
      exact pg_iret (pc := 30) rfl dX9_roomBy_30 (k1 c0 c1)
  · skip
    refine pg_iconst (pc := 4) (v := 0) dX9_roomBy_4 (by decide) ?_
    exact pg_iret (pc := 5) rfl dX9_roomBy_5 (k2 c0)
theorem oX9_roomBy {d : Nat} {v0 : Nat} {v1 : Int32} {v2 : Int32} (h : pg_At S Λ YX9_roomBy d 0 [(0, .ref v0), (1, .int v1), (2, .int v2)] [] M P) : pg_Ev S Λ YX9_roomBy d [.ref v0, .int v1, .int v2] M P := pg_Ev.of (by decide) (by first | decide | exact Nat.le_of_ble_eq_true rfl) h

end PGS

