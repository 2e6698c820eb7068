theorem pn_oi1 : Cond.instanceMethod Lib.objectInit ∈ pg_gd := pg_g (pg_t1 32 rfl) rfl
theorem pn_oi2 : Cond.code Lib.objectInit ⟨#[0xb1]⟩ 1 none ∈ pg_gd := pg_g (pg_t1 33 rfl) rfl
theorem pn_acint : Cond.arrayClass .int ∈ pg_gd := pg_g (pg_t1 114 rfl) rfl
theorem pn_acchar : Cond.arrayClass .char ∈ pg_gd := pg_g (pg_t1 72 rfl) rfl
theorem pn_acboolean : Cond.arrayClass .boolean ∈ pg_gd := pg_g (pg_t1 173 rfl) rfl
theorem pn_aclong : Cond.arrayClass .long ∈ pg_gd := pg_g (pg_t1 213 rfl) rfl
section PNX
variable {S : pg_S} {Λ : pg_L} {d : Nat} {M : pg_M}
theorem pnX9 {a : Nat} (h : pg_isX9 Λ a) (ha : a + 5 ≤ 1000) (hz : ∀ b, a ≤ b → b < a + 5 → M.1 b = (fun _ => 0) ∧ M.2.1 b = fun _ => 0) : pn_Ev S Λ YX9_init d a (.inr (9, [.null, .null, .null, .null, .int 0, .int 0])) 4 26 (a + 5) (fun M' => M' = M) := by
  obtain ⟨h0, h1, h2, h3, h4⟩ := h
  have z0 := hz a (by omega) (by omega)
  have z1 := hz (a + 1) (by omega) (by omega)
  have z2 := hz (a + 2) (by omega) (by omega)
  have z3 := hz (a + 3) (by omega) (by omega)
  have z4 := hz (a + 4) (by omega) (by omega)
  refine pn_Ev.of M (by decide) rfl rfl (by omega) (by decide) ?_
  refine pn_aload_n (pc := 0) (i := 0) (j := 0) (x := a) dX9_init_0 rfl rfl ?_
  refine pn_obj (pc := 1) (pg_g (pg_t1 78 rfl) rfl) pn_oi1 pn_oi2 (by decide) dX9_init_1 ?_
  refine pn_aload_n (pc := 4) (i := 0) (j := 0) (x := a) dX9_init_4 rfl rfl ?_
  refine pn_bipush (pc := 5) (v := 6) dX9_init_5 rfl ?_
  refine pn_newa (pc := 7) (N := 6) (t0 := 0) (ty := .int) (x := .inl (fun _ => 0)) dX9_init_7 rfl pn_acint (by decide) (by decide) (by decide) rfl (fun _ _ q => q) h1 (by show pg_ce S M (a + 1) _ = _; simp only [pg_ce, (z1).1]) (fun _ => rfl) (by omega) ⟨by decide, by decide⟩ ?_
  refine pn_putF (pc := 9) (k := 0) (N := 6) (T := TX9) (ty := .array .int) tyX9 rfl pg_inX9 tyX9_ok nmX9 (by decide) (Nat.le_of_ble_eq_true rfl) ⟨by omega, by omega⟩ (pg_g (pg_t1 79 rfl) rfl) rfl rfl rfl rfl rfl dX9_init_9 ?_
  refine pn_aload_n (pc := 12) (i := 0) (j := 0) (x := a) dX9_init_12 rfl rfl ?_
  refine pn_bipush (pc := 13) (v := 6) dX9_init_13 rfl ?_
  refine pn_newa (pc := 15) (N := 6) (t0 := 0) (ty := .int) (x := .inl (fun _ => 0)) dX9_init_15 rfl pn_acint (by decide) (by decide) (by decide) rfl (fun _ _ q => q) h2 (by show pg_ce S M (a + 2) _ = _; simp only [pg_ce, (z2).1]) (fun _ => rfl) (by omega) ⟨by decide, by decide⟩ ?_
  refine pn_putF (pc := 17) (k := 1) (N := 6) (T := TX9) (ty := .array .int) tyX9 rfl pg_inX9 tyX9_ok nmX9 (by decide) (Nat.le_of_ble_eq_true rfl) ⟨by omega, by omega⟩ (pg_g (pg_t1 83 rfl) rfl) rfl rfl rfl rfl rfl dX9_init_17 ?_
  refine pn_aload_n (pc := 20) (i := 0) (j := 0) (x := a) dX9_init_20 rfl rfl ?_
  refine pn_bipush (pc := 21) (v := 6) dX9_init_21 rfl ?_
  refine pn_newa (pc := 23) (N := 6) (t0 := 0) (ty := .int) (x := .inl (fun _ => 0)) dX9_init_23 rfl pn_acint (by decide) (by decide) (by decide) rfl (fun _ _ q => q) h3 (by show pg_ce S M (a + 3) _ = _; simp only [pg_ce, (z3).1]) (fun _ => rfl) (by omega) ⟨by decide, by decide⟩ ?_
  refine pn_putF (pc := 25) (k := 2) (N := 6) (T := TX9) (ty := .array .int) tyX9 rfl pg_inX9 tyX9_ok nmX9 (by decide) (Nat.le_of_ble_eq_true rfl) ⟨by omega, by omega⟩ (pg_g (pg_t1 87 rfl) rfl) rfl rfl rfl rfl rfl dX9_init_25 ?_
  refine pn_aload_n (pc := 28) (i := 0) (j := 0) (x := a) dX9_init_28 rfl rfl ?_
  refine pn_bipush (pc := 29) (v := 8) dX9_init_29 rfl ?_
  refine pn_newa (pc := 31) (N := 8) (t0 := 0) (ty := .int) (x := .inl (fun _ => 0)) dX9_init_31 rfl pn_acint (by decide) (by decide) (by decide) rfl (fun _ _ q => q) h4 (by show pg_ce S M (a + 4) _ = _; simp only [pg_ce, (z4).1]) (fun _ => rfl) (by omega) ⟨by decide, by decide⟩ ?_
  refine pn_putF (pc := 33) (k := 3) (N := 6) (T := TX9) (ty := .array .int) tyX9 rfl pg_inX9 tyX9_ok nmX9 (by decide) (Nat.le_of_ble_eq_true rfl) ⟨by omega, by omega⟩ (pg_g (pg_t1 91 rfl) rfl) rfl rfl rfl rfl rfl dX9_init_33 ?_
  refine pn_vret (pc := 36) rfl dX9_init_36 rfl (fun b o ho => ?_)
  have hb : b = a := by
    by_cases q : b = a
    · exact q
    · simp [pn_up, q] at ho
  subst hb
  simp only [pn_up, if_true] at ho
  cases Option.some.inj ho
  rw [h0]
  simp [pg_ce, pg_fvs, pg_fv, pg_up, z0]
theorem pnX2 {a : Nat} (h : pg_isX2 Λ a) (ha : a + 6 ≤ 1000) (hz : ∀ b, a ≤ b → b < a + 6 → M.1 b = (fun _ => 0) ∧ M.2.1 b = fun _ => 0) : pn_Ev S Λ YX2_init d a (.inr (2, [.null, .null, .null, .null, .null, .int 0])) 5 46 (a + 6) (fun M' => M' = M) := by
  obtain ⟨h0, h1, h2, h3, h4, h5⟩ := h
  have z0 := hz a (by omega) (by omega)
  have z1 := hz (a + 1) (by omega) (by omega)
  have z2 := hz (a + 2) (by omega) (by omega)
  have z3 := hz (a + 3) (by omega) (by omega)
  have z4 := hz (a + 4) (by omega) (by omega)
  have z5 := hz (a + 5) (by omega) (by omega)
  refine pn_Ev.of M (by decide) rfl rfl (by omega) (by decide) ?_
  refine pn_aload_n (pc := 0) (i := 0) (j := 0) (x := a) dX2_init_0 rfl rfl ?_
  refine pn_obj (pc := 1) (pg_g (pg_t1 120 rfl) rfl) pn_oi1 pn_oi2 (by decide) dX2_init_1 ?_
  refine pn_aload_n (pc := 4) (i := 0) (j := 0) (x := a) dX2_init_4 rfl rfl ?_
  refine pn_bipush (pc := 5) (v := 8) dX2_init_5 rfl ?_
  refine pn_newa (pc := 7) (N := 8) (t0 := 0) (ty := .int) (x := .inl (fun _ => 0)) dX2_init_7 rfl pn_acint (by decide) (by decide) (by decide) rfl (fun _ _ q => q) h1 (by show pg_ce S M (a + 1) _ = _; simp only [pg_ce, (z1).1]) (fun _ => rfl) (by omega) ⟨by decide, by decide⟩ ?_
  refine pn_putF (pc := 9) (k := 0) (N := 6) (T := TX2) (ty := .array .int) tyX2 rfl pg_inX2 tyX2_ok nmX2 (by decide) (Nat.le_of_ble_eq_true rfl) ⟨by omega, by omega⟩ (pg_g (pg_t1 121 rfl) rfl) rfl rfl rfl rfl rfl dX2_init_9 ?_
  refine pn_aload_n (pc := 12) (i := 0) (j := 0) (x := a) dX2_init_12 rfl rfl ?_
  refine pn_bipush (pc := 13) (v := 8) dX2_init_13 rfl ?_
  refine pn_newa (pc := 15) (N := 8) (t0 := 0) (ty := .int) (x := .inl (fun _ => 0)) dX2_init_15 rfl pn_acint (by decide) (by decide) (by decide) rfl (fun _ _ q => q) h2 (by show pg_ce S M (a + 2) _ = _; simp only [pg_ce, (z2).1]) (fun _ => rfl) (by omega) ⟨by decide, by decide⟩ ?_
  refine pn_putF (pc := 17) (k := 1) (N := 6) (T := TX2) (ty := .array .int) tyX2 rfl pg_inX2 tyX2_ok nmX2 (by decide) (Nat.le_of_ble_eq_true rfl) ⟨by omega, by omega⟩ (pg_g (pg_t1 122 rfl) rfl) rfl rfl rfl rfl rfl dX2_init_17 ?_
  refine pn_aload_n (pc := 20) (i := 0) (j := 0) (x := a) dX2_init_20 rfl rfl ?_
  refine pn_bipush (pc := 21) (v := 8) dX2_init_21 rfl ?_
  refine pn_newa (pc := 23) (N := 8) (t0 := 0) (ty := .int) (x := .inl (fun _ => 0)) dX2_init_23 rfl pn_acint (by decide) (by decide) (by decide) rfl (fun _ _ q => q) h3 (by show pg_ce S M (a + 3) _ = _; simp only [pg_ce, (z3).1]) (fun _ => rfl) (by omega) ⟨by decide, by decide⟩ ?_
  refine pn_putF (pc := 25) (k := 2) (N := 6) (T := TX2) (ty := .array .int) tyX2 rfl pg_inX2 tyX2_ok nmX2 (by decide) (Nat.le_of_ble_eq_true rfl) ⟨by omega, by omega⟩ (pg_g (pg_t1 123 rfl) rfl) rfl rfl rfl rfl rfl dX2_init_25 ?_
  refine pn_aload_n (pc := 28) (i := 0) (j := 0) (x := a) dX2_init_28 rfl rfl ?_
  refine pn_bipush (pc := 29) (v := 12) dX2_init_29 rfl ?_
  refine pn_newa (pc := 31) (N := 12) (t0 := 0) (ty := .int) (x := .inl (fun _ => 0)) dX2_init_31 rfl pn_acint (by decide) (by decide) (by decide) rfl (fun _ _ q => q) h4 (by show pg_ce S M (a + 4) _ = _; simp only [pg_ce, (z4).1]) (fun _ => rfl) (by omega) ⟨by decide, by decide⟩ ?_
  refine pn_putF (pc := 33) (k := 3) (N := 6) (T := TX2) (ty := .array .int) tyX2 rfl pg_inX2 tyX2_ok nmX2 (by decide) (Nat.le_of_ble_eq_true rfl) ⟨by omega, by omega⟩ (pg_g (pg_t1 124 rfl) rfl) rfl rfl rfl rfl rfl dX2_init_33 ?_
  refine pn_aload_n (pc := 36) (i := 0) (j := 0) (x := a) dX2_init_36 rfl rfl ?_
  refine pn_bipush (pc := 37) (v := 10) dX2_init_37 rfl ?_
  refine pn_newa (pc := 39) (N := 10) (t0 := 0) (ty := .int) (x := .inl (fun _ => 0)) dX2_init_39 rfl pn_acint (by decide) (by decide) (by decide) rfl (fun _ _ q => q) h5 (by show pg_ce S M (a + 5) _ = _; simp only [pg_ce, (z5).1]) (fun _ => rfl) (by omega) ⟨by decide, by decide⟩ ?_
  refine pn_putF (pc := 41) (k := 4) (N := 6) (T := TX2) (ty := .array .int) tyX2 rfl pg_inX2 tyX2_ok nmX2 (by decide) (Nat.le_of_ble_eq_true rfl) ⟨by omega, by omega⟩ (pg_g (pg_t1 125 rfl) rfl) rfl rfl rfl rfl rfl dX2_init_41 ?_
  refine pn_vret (pc := 44) rfl dX2_init_44 rfl (fun b o ho => ?_)
  have hb : b = a := by
    by_cases q : b = a
    · exact q
    · simp [pn_up, q] at ho
  subst hb
  simp only [pn_up, if_true] at ho
  cases Option.some.inj ho
  rw [h0]
  simp [pg_ce, pg_fvs, pg_fv, pg_up, z0]
theorem pnX1 {a : Nat} (h : pg_isX1 Λ a) (ha : a + 4 ≤ 1000) (hz : ∀ b, a ≤ b → b < a + 4 → M.1 b = (fun _ => 0) ∧ M.2.1 b = fun _ => 0) : pn_Ev S Λ YX1_init d a (.inr (1, [.null, .null, .null, .int 0, .int 0, .int 0])) 3 90 (a + 4) (fun M' => M' = M) := by
  obtain ⟨h0, h1, h2, h3⟩ := h
  have z0 := hz a (by omega) (by omega)
  have z1 := hz (a + 1) (by omega) (by omega)
  have z2 := hz (a + 2) (by omega) (by omega)
  have z3 := hz (a + 3) (by omega) (by omega)
  refine pn_Ev.of M (by decide) rfl rfl (by omega) (by decide) ?_
  refine pn_aload_n (pc := 0) (i := 0) (j := 0) (x := a) dX1_init_0 rfl rfl ?_
  refine pn_obj (pc := 1) (pg_g (pg_t2 137 rfl) rfl) pn_oi1 pn_oi2 (by decide) dX1_init_1 ?_
  refine pn_aload_n (pc := 4) (i := 0) (j := 0) (x := a) dX1_init_4 rfl rfl ?_
  refine pn_bipush (pc := 5) (v := 30) dX1_init_5 rfl ?_
  refine pn_newa (pc := 7) (N := 30) (t0 := 0) (ty := .int) (x := .inl (fun _ => 0)) dX1_init_7 rfl pn_acint (by decide) (by decide) (by decide) rfl (fun _ _ q => q) h1 (by show pg_ce S M (a + 1) _ = _; simp only [pg_ce, (z1).1]) (fun _ => rfl) (by omega) ⟨by decide, by decide⟩ ?_
  refine pn_putF (pc := 9) (k := 0) (N := 6) (T := TX1) (ty := .array .int) tyX1 rfl pg_inX1 tyX1_ok nmX1 (by decide) (Nat.le_of_ble_eq_true rfl) ⟨by omega, by omega⟩ (pg_g (pg_t2 138 rfl) rfl) rfl rfl rfl rfl rfl dX1_init_9 ?_
  refine pn_aload_n (pc := 12) (i := 0) (j := 0) (x := a) dX1_init_12 rfl rfl ?_
  refine pn_bipush (pc := 13) (v := 30) dX1_init_13 rfl ?_
  refine pn_newa (pc := 15) (N := 30) (t0 := 0) (ty := .int) (x := .inl (fun _ => 0)) dX1_init_15 rfl pn_acint (by decide) (by decide) (by decide) rfl (fun _ _ q => q) h2 (by show pg_ce S M (a + 2) _ = _; simp only [pg_ce, (z2).1]) (fun _ => rfl) (by omega) ⟨by decide, by decide⟩ ?_
  refine pn_putF (pc := 17) (k := 1) (N := 6) (T := TX1) (ty := .array .int) tyX1 rfl pg_inX1 tyX1_ok nmX1 (by decide) (Nat.le_of_ble_eq_true rfl) ⟨by omega, by omega⟩ (pg_g (pg_t2 139 rfl) rfl) rfl rfl rfl rfl rfl dX1_init_17 ?_
  refine pn_aload_n (pc := 20) (i := 0) (j := 0) (x := a) dX1_init_20 rfl rfl ?_
  refine pn_bipush (pc := 21) (v := 30) dX1_init_21 rfl ?_
  refine pn_newa (pc := 23) (N := 30) (t0 := 0) (ty := .int) (x := .inl (fun _ => 0)) dX1_init_23 rfl pn_acint (by decide) (by decide) (by decide) rfl (fun _ _ q => q) h3 (by show pg_ce S M (a + 3) _ = _; simp only [pg_ce, (z3).1]) (fun _ => rfl) (by omega) ⟨by decide, by decide⟩ ?_
  refine pn_putF (pc := 25) (k := 2) (N := 6) (T := TX1) (ty := .array .int) tyX1 rfl pg_inX1 tyX1_ok nmX1 (by decide) (Nat.le_of_ble_eq_true rfl) ⟨by omega, by omega⟩ (pg_g (pg_t2 140 rfl) rfl) rfl rfl rfl rfl rfl dX1_init_25 ?_
  refine pn_vret (pc := 28) rfl dX1_init_28 rfl (fun b o ho => ?_)
  have hb : b = a := by
    by_cases q : b = a
    · exact q
    · simp [pn_up, q] at ho
  subst hb
  simp only [pn_up, if_true] at ho
  cases Option.some.inj ho
  rw [h0]
  simp [pg_ce, pg_fvs, pg_fv, pg_up, z0]
theorem pnX8 {a : Nat} (h : pg_isX8 Λ a) (ha : a + 3 ≤ 1000) (hz : ∀ b, a ≤ b → b < a + 3 → M.1 b = (fun _ => 0) ∧ M.2.1 b = fun _ => 0) : pn_Ev S Λ YX8_init d a (.inr (8, [.null, .null, .int 0])) 2 1032 (a + 3) (fun M' => M' = M) := by
  obtain ⟨h0, h1, h2⟩ := h
  have z0 := hz a (by omega) (by omega)
  have z1 := hz (a + 1) (by omega) (by omega)
  have z2 := hz (a + 2) (by omega) (by omega)
  refine pn_Ev.of M (by decide) rfl rfl (by omega) (by decide) ?_
  refine pn_aload_n (pc := 0) (i := 0) (j := 0) (x := a) dX8_init_0 rfl rfl ?_
  refine pn_obj (pc := 1) (pg_g (pg_t2 26 rfl) rfl) pn_oi1 pn_oi2 (by decide) dX8_init_1 ?_
  refine pn_aload_n (pc := 4) (i := 0) (j := 0) (x := a) dX8_init_4 rfl rfl ?_
  refine pn_sipush (pc := 5) (v := 1000) dX8_init_5 rfl ?_
  refine pn_newa (pc := 8) (N := 1000) (t0 := 0) (ty := .int) (x := .inl (fun _ => 0)) dX8_init_8 rfl pn_acint (by decide) (by decide) (by decide) rfl (fun _ _ q => q) h1 (by show pg_ce S M (a + 1) _ = _; simp only [pg_ce, (z1).1]) (fun _ => rfl) (by omega) ⟨by decide, by decide⟩ ?_
  refine pn_putF (pc := 10) (k := 0) (N := 3) (T := TX8) (ty := .array .int) tyX8 rfl pg_inX8 tyX8_ok nmX8 (by decide) (Nat.le_of_ble_eq_true rfl) ⟨by omega, by omega⟩ (pg_g (pg_t2 27 rfl) rfl) rfl rfl rfl rfl rfl dX8_init_10 ?_
  refine pn_aload_n (pc := 13) (i := 0) (j := 0) (x := a) dX8_init_13 rfl rfl ?_
  refine pn_bipush (pc := 14) (v := 32) dX8_init_14 rfl ?_
  refine pn_newa (pc := 16) (N := 32) (t0 := 0) (ty := .int) (x := .inl (fun _ => 0)) dX8_init_16 rfl pn_acint (by decide) (by decide) (by decide) rfl (fun _ _ q => q) h2 (by show pg_ce S M (a + 2) _ = _; simp only [pg_ce, (z2).1]) (fun _ => rfl) (by omega) ⟨by decide, by decide⟩ ?_
  refine pn_putF (pc := 18) (k := 1) (N := 3) (T := TX8) (ty := .array .int) tyX8 rfl pg_inX8 tyX8_ok nmX8 (by decide) (Nat.le_of_ble_eq_true rfl) ⟨by omega, by omega⟩ (pg_g (pg_t2 28 rfl) rfl) rfl rfl rfl rfl rfl dX8_init_18 ?_
  refine pn_vret (pc := 21) rfl dX8_init_21 rfl (fun b o ho => ?_)
  have hb : b = a := by
    by_cases q : b = a
    · exact q
    · simp [pn_up, q] at ho
  subst hb
  simp only [pn_up, if_true] at ho
  cases Option.some.inj ho
  rw [h0]
  simp [pg_ce, pg_fvs, pg_fv, pg_up, z0]
theorem pnX7 (h : pg_isX7 Λ) (hz : ∀ b, 1 ≤ b → b < 1 + 2 → M.1 b = (fun _ => 0) ∧ M.2.1 b = fun _ => 0) : pn_Ev S Λ YX7_init d 1 (.inr (7, [.null, .int 0, .int 0, .int 0, .int 0, .int 0, .long 0, .int 0, .int 0, .int 0])) 1 1000 (1 + 2) (fun M' => M' = M) := by
  obtain ⟨h0, h1⟩ := h
  have z0 := hz 1 (by omega) (by omega)
  have z1 := hz (1 + 1) (by omega) (by omega)
  refine pn_Ev.of M (by decide) rfl rfl (by omega) (by decide) ?_
  refine pn_aload_n (pc := 0) (i := 0) (j := 0) (x := 1) dX7_init_0 rfl rfl ?_
  refine pn_obj (pc := 1) (pg_g (pg_t1 39 rfl) rfl) pn_oi1 pn_oi2 (by decide) dX7_init_1 ?_
  refine pn_aload_n (pc := 4) (i := 0) (j := 0) (x := 1) dX7_init_4 rfl rfl ?_
  refine pn_sipush (pc := 5) (v := 1000) dX7_init_5 rfl ?_
  refine pn_newa (pc := 8) (N := 1000) (t0 := 3) (ty := .char) (x := .inl (fun _ => 0)) dX7_init_8 rfl pn_acchar (by decide) (by decide) (by decide) rfl (fun _ _ q => q) h1 (by show pg_ce S M (1 + 1) _ = _; simp only [pg_ce, (z1).1]) (fun _ => rfl) (by omega) ⟨by decide, by decide⟩ ?_
  refine pn_putF (pc := 10) (k := 0) (N := 10) (T := TX7) (ty := .array .char) tyX7 rfl pg_inX7 tyX7_ok nmX7 (by decide) (Nat.le_of_ble_eq_true rfl) ⟨by omega, by omega⟩ (pg_g (pg_t1 40 rfl) rfl) rfl rfl rfl rfl rfl dX7_init_10 ?_
  refine pn_vret (pc := 13) rfl dX7_init_13 rfl (fun b o ho => ?_)
  have hb : b = 1 := by
    by_cases q : b = 1
    · exact q
    · simp [pn_up, q] at ho
  subst hb
  simp only [pn_up, if_true] at ho
  cases Option.some.inj ho
  rw [h0]
  simp [pg_ce, pg_fvs, pg_fv, pg_up, z0]
theorem pnX3 (h : pg_isX3 Λ) (hz : ∀ b, 153 ≤ b → b < 153 + 8 → M.1 b = (fun _ => 0) ∧ M.2.1 b = fun _ => 0) : pn_Ev S Λ YX3_init d 153 (.inr (3, [.null, .null, .null, .null, .null, .null, .null, .int 0, .int 0, .int 0])) 7 880 (153 + 8) (fun M' => M' = M) := by
  obtain ⟨h0, h1, h2, h3, h4, h5, h6, h7⟩ := h
  have z0 := hz 153 (by omega) (by omega)
  have z1 := hz (153 + 1) (by omega) (by omega)
  have z2 := hz (153 + 2) (by omega) (by omega)
  have z3 := hz (153 + 3) (by omega) (by omega)
  have z4 := hz (153 + 4) (by omega) (by omega)
  have z5 := hz (153 + 5) (by omega) (by omega)
  have z6 := hz (153 + 6) (by omega) (by omega)
  have z7 := hz (153 + 7) (by omega) (by omega)
  refine pn_Ev.of M (by decide) rfl rfl (by omega) (by decide) ?_
  refine pn_aload_n (pc := 0) (i := 0) (j := 0) (x := 153) dX3_init_0 rfl rfl ?_
  refine pn_obj (pc := 1) (pg_g (pg_t1 179 rfl) rfl) pn_oi1 pn_oi2 (by decide) dX3_init_1 ?_
  refine pn_aload_n (pc := 4) (i := 0) (j := 0) (x := 153) dX3_init_4 rfl rfl ?_
  refine pn_sipush (pc := 5) (v := 420) dX3_init_5 rfl ?_
  refine pn_newa (pc := 8) (N := 420) (t0 := 0) (ty := .int) (x := .inl (fun _ => 0)) dX3_init_8 rfl pn_acint (by decide) (by decide) (by decide) rfl (fun _ _ q => q) h1 (by show pg_ce S M (153 + 1) _ = _; simp only [pg_ce, (z1).1]) (fun _ => rfl) (by omega) ⟨by decide, by decide⟩ ?_
  refine pn_putF (pc := 10) (k := 0) (N := 10) (T := TX3) (ty := .array .int) tyX3 rfl pg_inX3 tyX3_ok nmX3 (by decide) (Nat.le_of_ble_eq_true rfl) ⟨by omega, by omega⟩ (pg_g (pg_t1 180 rfl) rfl) rfl rfl rfl rfl rfl dX3_init_10 ?_
  refine pn_aload_n (pc := 13) (i := 0) (j := 0) (x := 153) dX3_init_13 rfl rfl ?_
  refine pn_bipush (pc := 14) (v := 6) dX3_init_14 rfl ?_
  refine pn_newa (pc := 16) (N := 6) (t0 := 0) (ty := .int) (x := .inl (fun _ => 0)) dX3_init_16 rfl pn_acint (by decide) (by decide) (by decide) rfl (fun _ _ q => q) h2 (by show pg_ce S M (153 + 2) _ = _; simp only [pg_ce, (z2).1]) (fun _ => rfl) (by omega) ⟨by decide, by decide⟩ ?_
  refine pn_putF (pc := 18) (k := 1) (N := 10) (T := TX3) (ty := .array .int) tyX3 rfl pg_inX3 tyX3_ok nmX3 (by decide) (Nat.le_of_ble_eq_true rfl) ⟨by omega, by omega⟩ (pg_g (pg_t1 181 rfl) rfl) rfl rfl rfl rfl rfl dX3_init_18 ?_
  refine pn_aload_n (pc := 21) (i := 0) (j := 0) (x := 153) dX3_init_21 rfl rfl ?_
  refine pn_bipush (pc := 22) (v := 64) dX3_init_22 rfl ?_
  refine pn_newa (pc := 24) (N := 64) (t0 := 0) (ty := .int) (x := .inl (fun _ => 0)) dX3_init_24 rfl pn_acint (by decide) (by decide) (by decide) rfl (fun _ _ q => q) h3 (by show pg_ce S M (153 + 3) _ = _; simp only [pg_ce, (z3).1]) (fun _ => rfl) (by omega) ⟨by decide, by decide⟩ ?_
  refine pn_putF (pc := 26) (k := 2) (N := 10) (T := TX3) (ty := .array .int) tyX3 rfl pg_inX3 tyX3_ok nmX3 (by decide) (Nat.le_of_ble_eq_true rfl) ⟨by omega, by omega⟩ (pg_g (pg_t1 182 rfl) rfl) rfl rfl rfl rfl rfl dX3_init_26 ?_
  refine pn_aload_n (pc := 29) (i := 0) (j := 0) (x := 153) dX3_init_29 rfl rfl ?_
  refine pn_bipush (pc := 30) (v := 64) dX3_init_30 rfl ?_
  refine pn_newa (pc := 32) (N := 64) (t0 := 0) (ty := .int) (x := .inl (fun _ => 0)) dX3_init_32 rfl pn_acint (by decide) (by decide) (by decide) rfl (fun _ _ q => q) h4 (by show pg_ce S M (153 + 4) _ = _; simp only [pg_ce, (z4).1]) (fun _ => rfl) (by omega) ⟨by decide, by decide⟩ ?_
  refine pn_putF (pc := 34) (k := 3) (N := 10) (T := TX3) (ty := .array .int) tyX3 rfl pg_inX3 tyX3_ok nmX3 (by decide) (Nat.le_of_ble_eq_true rfl) ⟨by omega, by omega⟩ (pg_g (pg_t1 183 rfl) rfl) rfl rfl rfl rfl rfl dX3_init_34 ?_
  refine pn_aload_n (pc := 37) (i := 0) (j := 0) (x := 153) dX3_init_37 rfl rfl ?_
  refine pn_bipush (pc := 38) (v := 64) dX3_init_38 rfl ?_
  refine pn_newa (pc := 40) (N := 64) (t0 := 2) (ty := .boolean) (x := .inl (fun _ => 0)) dX3_init_40 rfl pn_acboolean (by decide) (by decide) (by decide) rfl (fun _ _ q => q) h5 (by show pg_ce S M (153 + 5) _ = _; simp only [pg_ce, (z5).1]) (fun _ => rfl) (by omega) ⟨by decide, by decide⟩ ?_
  refine pn_putF (pc := 42) (k := 4) (N := 10) (T := TX3) (ty := .array .boolean) tyX3 rfl pg_inX3 tyX3_ok nmX3 (by decide) (Nat.le_of_ble_eq_true rfl) ⟨by omega, by omega⟩ (pg_g (pg_t1 184 rfl) rfl) rfl rfl rfl rfl rfl dX3_init_42 ?_
  refine pn_aload_n (pc := 45) (i := 0) (j := 0) (x := 153) dX3_init_45 rfl rfl ?_
  refine pn_sipush (pc := 46) (v := 256) dX3_init_46 rfl ?_
  refine pn_newa (pc := 49) (N := 256) (t0 := 1) (ty := .long) (x := .inr (.inl (fun _ => 0))) dX3_init_49 rfl pn_aclong (by decide) (by decide) (by decide) rfl (fun _ _ q => q) h6 (by show pg_ce S M (153 + 6) _ = _; simp only [pg_ce, (z6).2]) (fun _ => rfl) (by omega) ⟨by decide, by decide⟩ ?_
  refine pn_putF (pc := 51) (k := 5) (N := 10) (T := TX3) (ty := .array .long) tyX3 rfl pg_inX3 tyX3_ok nmX3 (by decide) (Nat.le_of_ble_eq_true rfl) ⟨by omega, by omega⟩ (pg_g (pg_t1 185 rfl) rfl) rfl rfl rfl rfl rfl dX3_init_51 ?_
  refine pn_aload_n (pc := 54) (i := 0) (j := 0) (x := 153) dX3_init_54 rfl rfl ?_
  refine pn_bipush (pc := 55) (v := 6) dX3_init_55 rfl ?_
  refine pn_newa (pc := 57) (N := 6) (t0 := 0) (ty := .int) (x := .inl (fun _ => 0)) dX3_init_57 rfl pn_acint (by decide) (by decide) (by decide) rfl (fun _ _ q => q) h7 (by show pg_ce S M (153 + 7) _ = _; simp only [pg_ce, (z7).1]) (fun _ => rfl) (by omega) ⟨by decide, by decide⟩ ?_
  refine pn_putF (pc := 59) (k := 6) (N := 10) (T := TX3) (ty := .array .int) tyX3 rfl pg_inX3 tyX3_ok nmX3 (by decide) (Nat.le_of_ble_eq_true rfl) ⟨by omega, by omega⟩ (pg_g (pg_t1 186 rfl) rfl) rfl rfl rfl rfl rfl dX3_init_59 ?_
  refine pn_vret (pc := 62) rfl dX3_init_62 rfl (fun b o ho => ?_)
  have hb : b = 153 := by
    by_cases q : b = 153
    · exact q
    · simp [pn_up, q] at ho
  subst hb
  simp only [pn_up, if_true] at ho
  cases Option.some.inj ho
  rw [h0]
  simp [pg_ce, pg_fvs, pg_fv, pg_up, z0]
theorem pnX0 (h : pg_isX0 Λ) (hz : ∀ b, 161 ≤ b → b < 161 + 3 → M.1 b = (fun _ => 0) ∧ M.2.1 b = fun _ => 0) : pn_Ev S Λ YX0_init d 161 (.inr (0, [.null, .null])) 2 200 (161 + 3) (fun M' => M' = M) := by
  obtain ⟨h0, h1, h2⟩ := h
  have z0 := hz 161 (by omega) (by omega)
  have z1 := hz (161 + 1) (by omega) (by omega)
  have z2 := hz (161 + 2) (by omega) (by omega)
  refine pn_Ev.of M (by decide) rfl rfl (by omega) (by decide) ?_
  refine pn_aload_n (pc := 0) (i := 0) (j := 0) (x := 161) dX0_init_0 rfl rfl ?_
  refine pn_obj (pc := 1) (pg_g (pg_t1 219 rfl) rfl) pn_oi1 pn_oi2 (by decide) dX0_init_1 ?_
  refine pn_aload_n (pc := 4) (i := 0) (j := 0) (x := 161) dX0_init_4 rfl rfl ?_
  refine pn_bipush (pc := 5) (v := 100) dX0_init_5 rfl ?_
  refine pn_newa (pc := 7) (N := 100) (t0 := 1) (ty := .long) (x := .inr (.inl (fun _ => 0))) dX0_init_7 rfl pn_aclong (by decide) (by decide) (by decide) rfl (fun _ _ q => q) h1 (by show pg_ce S M (161 + 1) _ = _; simp only [pg_ce, (z1).2]) (fun _ => rfl) (by omega) ⟨by decide, by decide⟩ ?_
  refine pn_putF (pc := 9) (k := 0) (N := 2) (T := TX0) (ty := .array .long) tyX0 rfl pg_inX0 tyX0_ok nmX0 (by decide) (Nat.le_of_ble_eq_true rfl) ⟨by omega, by omega⟩ (pg_g (pg_t1 220 rfl) rfl) rfl rfl rfl rfl rfl dX0_init_9 ?_
  refine pn_aload_n (pc := 12) (i := 0) (j := 0) (x := 161) dX0_init_12 rfl rfl ?_
  refine pn_bipush (pc := 13) (v := 100) dX0_init_13 rfl ?_
  refine pn_newa (pc := 15) (N := 100) (t0 := 1) (ty := .long) (x := .inr (.inl (fun _ => 0))) dX0_init_15 rfl pn_aclong (by decide) (by decide) (by decide) rfl (fun _ _ q => q) h2 (by show pg_ce S M (161 + 2) _ = _; simp only [pg_ce, (z2).2]) (fun _ => rfl) (by omega) ⟨by decide, by decide⟩ ?_
  refine pn_putF (pc := 17) (k := 1) (N := 2) (T := TX0) (ty := .array .long) tyX0 rfl pg_inX0 tyX0_ok nmX0 (by decide) (Nat.le_of_ble_eq_true rfl) ⟨by omega, by omega⟩ (pg_g (pg_t1 221 rfl) rfl) rfl rfl rfl rfl rfl dX0_init_17 ?_
  refine pn_vret (pc := 20) rfl dX0_init_20 rfl (fun b o ho => ?_)
  have hb : b = 161 := by
    by_cases q : b = 161
    · exact q
    · simp [pn_up, q] at ho
  subst hb
  simp only [pn_up, if_true] at ho
  cases Option.some.inj ho
  rw [h0]
  simp [pg_ce, pg_fvs, pg_fv, pg_up, z0]
theorem pnX4 (h : pg_isX4 Λ) (hz : ∀ b, 164 ≤ b → b < 164 + 5 → M.1 b = (fun _ => 0) ∧ M.2.1 b = fun _ => 0) : pn_Ev S Λ YX4_init d 164 (.inr (4, [.null, .null, .null, .null, .int 0, .int 0])) 4 112 (164 + 5) (fun M' => M' = M) := by
  obtain ⟨h0, h1, h2, h3, h4⟩ := h
  have z0 := hz 164 (by omega) (by omega)
  have z1 := hz (164 + 1) (by omega) (by omega)
  have z2 := hz (164 + 2) (by omega) (by omega)
  have z3 := hz (164 + 3) (by omega) (by omega)
  have z4 := hz (164 + 4) (by omega) (by omega)
  refine pn_Ev.of M (by decide) rfl rfl (by omega) (by decide) ?_
  refine pn_aload_n (pc := 0) (i := 0) (j := 0) (x := 164) dX4_init_0 rfl rfl ?_
  refine pn_obj (pc := 1) (pg_g (pg_t1 232 rfl) rfl) pn_oi1 pn_oi2 (by decide) dX4_init_1 ?_
  refine pn_aload_n (pc := 4) (i := 0) (j := 0) (x := 164) dX4_init_4 rfl rfl ?_
  refine pn_bipush (pc := 5) (v := 6) dX4_init_5 rfl ?_
  refine pn_newa (pc := 7) (N := 6) (t0 := 0) (ty := .int) (x := .inl (fun _ => 0)) dX4_init_7 rfl pn_acint (by decide) (by decide) (by decide) rfl (fun _ _ q => q) h1 (by show pg_ce S M (164 + 1) _ = _; simp only [pg_ce, (z1).1]) (fun _ => rfl) (by omega) ⟨by decide, by decide⟩ ?_
  refine pn_putF (pc := 9) (k := 0) (N := 6) (T := TX4) (ty := .array .int) tyX4 rfl pg_inX4 tyX4_ok nmX4 (by decide) (Nat.le_of_ble_eq_true rfl) ⟨by omega, by omega⟩ (pg_g (pg_t1 233 rfl) rfl) rfl rfl rfl rfl rfl dX4_init_9 ?_
  refine pn_aload_n (pc := 12) (i := 0) (j := 0) (x := 164) dX4_init_12 rfl rfl ?_
  refine pn_bipush (pc := 13) (v := 36) dX4_init_13 rfl ?_
  refine pn_newa (pc := 15) (N := 36) (t0 := 0) (ty := .int) (x := .inl (fun _ => 0)) dX4_init_15 rfl pn_acint (by decide) (by decide) (by decide) rfl (fun _ _ q => q) h2 (by show pg_ce S M (164 + 2) _ = _; simp only [pg_ce, (z2).1]) (fun _ => rfl) (by omega) ⟨by decide, by decide⟩ ?_
  refine pn_putF (pc := 17) (k := 1) (N := 6) (T := TX4) (ty := .array .int) tyX4 rfl pg_inX4 tyX4_ok nmX4 (by decide) (Nat.le_of_ble_eq_true rfl) ⟨by omega, by omega⟩ (pg_g (pg_t1 234 rfl) rfl) rfl rfl rfl rfl rfl dX4_init_17 ?_
  refine pn_aload_n (pc := 20) (i := 0) (j := 0) (x := 164) dX4_init_20 rfl rfl ?_
  refine pn_bipush (pc := 21) (v := 64) dX4_init_21 rfl ?_
  refine pn_newa (pc := 23) (N := 64) (t0 := 0) (ty := .int) (x := .inl (fun _ => 0)) dX4_init_23 rfl pn_acint (by decide) (by decide) (by decide) rfl (fun _ _ q => q) h3 (by show pg_ce S M (164 + 3) _ = _; simp only [pg_ce, (z3).1]) (fun _ => rfl) (by omega) ⟨by decide, by decide⟩ ?_
  refine pn_putF (pc := 25) (k := 2) (N := 6) (T := TX4) (ty := .array .int) tyX4 rfl pg_inX4 tyX4_ok nmX4 (by decide) (Nat.le_of_ble_eq_true rfl) ⟨by omega, by omega⟩ (pg_g (pg_t1 235 rfl) rfl) rfl rfl rfl rfl rfl dX4_init_25 ?_
  refine pn_aload_n (pc := 28) (i := 0) (j := 0) (x := 164) dX4_init_28 rfl rfl ?_
  refine pn_bipush (pc := 29) (v := 6) dX4_init_29 rfl ?_
  refine pn_newa (pc := 31) (N := 6) (t0 := 0) (ty := .int) (x := .inl (fun _ => 0)) dX4_init_31 rfl pn_acint (by decide) (by decide) (by decide) rfl (fun _ _ q => q) h4 (by show pg_ce S M (164 + 4) _ = _; simp only [pg_ce, (z4).1]) (fun _ => rfl) (by omega) ⟨by decide, by decide⟩ ?_
  refine pn_putF (pc := 33) (k := 3) (N := 6) (T := TX4) (ty := .array .int) tyX4 rfl pg_inX4 tyX4_ok nmX4 (by decide) (Nat.le_of_ble_eq_true rfl) ⟨by omega, by omega⟩ (pg_g (pg_t1 236 rfl) rfl) rfl rfl rfl rfl rfl dX4_init_33 ?_
  refine pn_vret (pc := 36) rfl dX4_init_36 rfl (fun b o ho => ?_)
  have hb : b = 164 := by
    by_cases q : b = 164
    · exact q
    · simp [pn_up, q] at ho
  subst hb
  simp only [pn_up, if_true] at ho
  cases Option.some.inj ho
  rw [h0]
  simp [pg_ce, pg_fvs, pg_fv, pg_up, z0]
end PNX
