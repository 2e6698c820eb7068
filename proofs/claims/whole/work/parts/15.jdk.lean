theorem pg_wini : Cond.initialized "java/lang/System" ∈ pg_gd := pg_g (pg_t1 20 rfl) rfl
theorem lkX9_33 : Cond.methodLink RX9 33 arraycopyName ∈ pg_gd := pg_g (pg_t3 205 rfl) rfl
theorem pg_wsta : Cond.static arraycopyName ∈ pg_gd := pg_g (pg_t3 206 rfl) rfl
theorem pg_wnat : Cond.native arraycopyName ∈ pg_gd := pg_g (pg_t3 207 rfl) rfl
theorem lkX0_47 : Cond.methodLink RX0 47 arraycopyName ∈ pg_gd := pg_g (pg_t5 67 rfl) rfl
theorem lkX2_31 : Cond.methodLink RX2 31 arraycopyName ∈ pg_gd := pg_g (pg_t5 186 rfl) rfl
theorem pg_ne {x c : Int32} {n : Int} (h : ¬ x = c) (hc : c.toInt = n) : x.toInt ≠ n := fun e => h (Int32.toInt_inj.mp (e.trans hc.symm))
theorem pg_Ev.ofF {S : pg_S} {Λ : pg_L} {Y : pg_Y} {d : Nat} {As : List Value} {M : pg_M} {P : Option Value → pg_M → Prop} (hy : plainFor Y.1 = true) (hn : (lg_sl As).length ≤ Y.2.2.1) (h : pg_At S Λ Y d 0 (lv_args 0 As) [] M P) : pg_Ev S Λ Y d As M P := by
  intro rm h1 h2 h3 h4
  refine va_MetF (cc := Y.2.1) (maxL := Y.2.2.1) (ret := Y.2.2.2) hy rfl ?_
  intro p e s m args below meth c s₁ B hml hv
  obtain ⟨rfl, hR, hK⟩ := hv
  have hts := atoms_spec (ws := Cond.code Y.1 Y.2.1 Y.2.2.1 Y.2.2.2 :: pg_gd) B.pre
  have hl := lv_entry (As.map (pg_up S)) (n := Y.2.2.1) (by rw [pg_sl]; exact hn)
  rw [pg_args] at hl
  rw [lg_entry_eq]
  exact h p e s m _ below meth c s.heap [] (headSpec (Cond.code Y.1 Y.2.1 Y.2.2.1 Y.2.2.2 :: pg_gd) rm).room _ ⟨B.exec, B.bytes, hml, findClass_of_methodNamed B.named, fun w hw => hts w (List.mem_cons_of_mem _ hw), hK, B.returns, B.notSynchronized⟩ ⟨h1, h2⟩ hR (fun q hq => by cases hq) hl
section PGS
variable {S : pg_S} {Λ : pg_L} {d : Nat} {M : pg_M} {P : Option Value → pg_M → Prop}

theorem sJ9_max_7cf53_0 {v0 : Int32} {v1 : Int32} 
    (k0 : (v0 < v1) → P (some (.int v1)) M)
    (k1 : (¬ v0 < v1) → P (some (.int v0)) M) :
    pg_At S Λ YJ9_max_7cf53 d 0 [(0, .int v0), (1, .int v1)] [] M P := by
  refine pg_iload_n (pc := 0) (i := 0) (j := 0) (x := v0) dJ9_max_7cf53_0 rfl rfl ?_
  refine pg_iload_n (pc := 1) (i := 1) (j := 1) (x := v1) dJ9_max_7cf53_1 rfl rfl ?_
  refine pg_icmp_lt (pc := 2) (tgt := 9) dJ9_max_7cf53_2 (by decide) (fun c0 => ?_) (fun c0 => ?_)
  · skip
    refine pg_iload_n (pc := 9) (i := 1) (j := 1) (x := v1) dJ9_max_7cf53_9 rfl rfl ?_
    exact pg_iret (pc := 10) rfl dJ9_max_7cf53_10 (k0 c0)
  · skip
    refine pg_iload_n (pc := 5) (i := 0) (j := 0) (x := v0) dJ9_max_7cf53_5 rfl rfl ?_
    refine pg_goto (pc := 6) (tgt := 10) dJ9_max_7cf53_6 (by decide) ?_
    exact pg_iret (pc := 10) rfl dJ9_max_7cf53_10 (k1 c0)
theorem oJ9_max_7cf53 {d : Nat} {v0 : Int32} {v1 : Int32} (h : pg_At S Λ YJ9_max_7cf53 d 0 [(0, .int v0), (1, .int v1)] [] M P) : pg_Ev S Λ YJ9_max_7cf53 d [.int v0, .int v1] M P := pg_Ev.ofF (by decide +kernel) (by first | decide | exact Nat.le_of_ble_eq_true rfl) h
theorem sJ9_min_7cf53_0 {v0 : Int32} {v1 : Int32} 
    (k0 : (v1 < v0) → P (some (.int v1)) M)
    (k1 : (¬ v1 < v0) → P (some (.int v0)) M) :
    pg_At S Λ YJ9_min_7cf53 d 0 [(0, .int v0), (1, .int v1)] [] M P := by
  refine pg_iload_n (pc := 0) (i := 0) (j := 0) (x := v0) dJ9_min_7cf53_0 rfl rfl ?_
  refine pg_iload_n (pc := 1) (i := 1) (j := 1) (x := v1) dJ9_min_7cf53_1 rfl rfl ?_
  refine pg_icmp_gt (pc := 2) (tgt := 9) dJ9_min_7cf53_2 (by decide) (fun c0 => ?_) (fun c0 => ?_)
  · skip
    refine pg_iload_n (pc := 9) (i := 1) (j := 1) (x := v1) dJ9_min_7cf53_9 rfl rfl ?_
    exact pg_iret (pc := 10) rfl dJ9_min_7cf53_10 (k0 c0)
  · skip
    refine pg_iload_n (pc := 5) (i := 0) (j := 0) (x := v0) dJ9_min_7cf53_5 rfl rfl ?_
    refine pg_goto (pc := 6) (tgt := 10) dJ9_min_7cf53_6 (by decide) ?_
    exact pg_iret (pc := 10) rfl dJ9_min_7cf53_10 (k1 c0)
theorem oJ9_min_7cf53 {d : Nat} {v0 : Int32} {v1 : Int32} (h : pg_At S Λ YJ9_min_7cf53 d 0 [(0, .int v0), (1, .int v1)] [] M P) : pg_Ev S Λ YJ9_min_7cf53 d [.int v0, .int v1] M P := pg_Ev.ofF (by decide +kernel) (by first | decide | exact Nat.le_of_ble_eq_true rfl) h
theorem sJ9_floorMod_7cf53_0 {v0 : Int32} {v1 : Int32} 
    (b0 : ¬ v1 = 0)
    (k0 : (0 ≤ (v0 ^^^ v1)) → P (some (.int (v0 - v0 / v1 * v1))) M)
    (k1 : (¬ 0 ≤ (v0 ^^^ v1)) → ((v0 - v0 / v1 * v1) = 0) → P (some (.int (v0 - v0 / v1 * v1))) M)
    (k2 : (¬ 0 ≤ (v0 ^^^ v1)) → (¬ (v0 - v0 / v1 * v1) = 0) → P (some (.int ((v0 - v0 / v1 * v1) + v1))) M) :
    pg_At S Λ YJ9_floorMod_7cf53 d 0 [(0, .int v0), (1, .int v1)] [] M P := by
  refine pg_iload_n (pc := 0) (i := 0) (j := 0) (x := v0) dJ9_floorMod_7cf53_0 rfl rfl ?_
  refine pg_iload_n (pc := 1) (i := 1) (j := 1) (x := v1) dJ9_floorMod_7cf53_1 rfl rfl ?_
  refine pg_irem (pc := 2) dJ9_floorMod_7cf53_2 b0 ?_
  refine pg_istore_n (pc := 3) (i := 2) (ls' := [(2, .int (v0 - v0 / v1 * v1)), (0, .int v0), (1, .int v1)]) dJ9_floorMod_7cf53_3 rfl (by decide) rfl ?_
  refine pg_iload_n (pc := 4) (i := 0) (j := 1) (x := v0) dJ9_floorMod_7cf53_4 rfl rfl ?_
  refine pg_iload_n (pc := 5) (i := 1) (j := 2) (x := v1) dJ9_floorMod_7cf53_5 rfl rfl ?_
  refine pg_ixor (pc := 6) dJ9_floorMod_7cf53_6 ?_
  refine pg_if_ge (pc := 7) (tgt := 18) dJ9_floorMod_7cf53_7 (by decide) (fun c0 => ?_) (fun c0 => ?_)
  · skip
    refine pg_iload_n (pc := 18) (i := 2) (j := 0) (x := (v0 - v0 / v1 * v1)) dJ9_floorMod_7cf53_18 rfl rfl ?_
    exact pg_iret (pc := 19) rfl dJ9_floorMod_7cf53_19 (k0 c0)
  · skip
    refine pg_iload_n (pc := 10) (i := 2) (j := 0) (x := (v0 - v0 / v1 * v1)) dJ9_floorMod_7cf53_10 rfl rfl ?_
    refine pg_if_eq (pc := 11) (tgt := 18) dJ9_floorMod_7cf53_11 (by decide) (fun c1 => ?_) (fun c1 => ?_)
    · skip
      refine pg_iload_n (pc := 18) (i := 2) (j := 0) (x := (v0 - v0 / v1 * v1)) dJ9_floorMod_7cf53_18 rfl rfl ?_
      exact pg_iret (pc := 19) rfl dJ9_floorMod_7cf53_19 (k1 c0 c1)
    · skip
      refine pg_iload_n (pc := 14) (i := 2) (j := 0) (x := (v0 - v0 / v1 * v1)) dJ9_floorMod_7cf53_14 rfl rfl ?_
      refine pg_iload_n (pc := 15) (i := 1) (j := 2) (x := v1) dJ9_floorMod_7cf53_15 rfl rfl ?_
      refine pg_iadd (pc := 16) dJ9_floorMod_7cf53_16 ?_
      exact pg_iret (pc := 17) rfl dJ9_floorMod_7cf53_17 (k2 c0 c1)
theorem oJ9_floorMod_7cf53 {d : Nat} {v0 : Int32} {v1 : Int32} (h : pg_At S Λ YJ9_floorMod_7cf53 d 0 [(0, .int v0), (1, .int v1)] [] M P) : pg_Ev S Λ YJ9_floorMod_7cf53 d [.int v0, .int v1] M P := pg_Ev.ofF (by decide +kernel) (by first | decide | exact Nat.le_of_ble_eq_true rfl) h
theorem sJ6_bitCount_0f7a4_0 {v0 : Int32} 
    (k0 : P (some (.int ((((((((v0 - (((v0.toUInt32 >>> ((1 : Int32).toUInt32 &&& Int32.toUInt32 31)).toInt32) &&& 1431655765)) &&& 858993459) + ((((v0 - (((v0.toUInt32 >>> ((1 : Int32).toUInt32 &&& Int32.toUInt32 31)).toInt32) &&& 1431655765)).toUInt32 >>> ((2 : Int32).toUInt32 &&& Int32.toUInt32 31)).toInt32) &&& 858993459)) + (((((v0 - (((v0.toUInt32 >>> ((1 : Int32).toUInt32 &&& Int32.toUInt32 31)).toInt32) &&& 1431655765)) &&& 858993459) + ((((v0 - (((v0.toUInt32 >>> ((1 : Int32).toUInt32 &&& Int32.toUInt32 31)).toInt32) &&& 1431655765)).toUInt32 >>> ((2 : Int32).toUInt32 &&& Int32.toUInt32 31)).toInt32) &&& 858993459)).toUInt32 >>> ((4 : Int32).toUInt32 &&& Int32.toUInt32 31)).toInt32)) &&& 252645135) + (((((((v0 - (((v0.toUInt32 >>> ((1 : Int32).toUInt32 &&& Int32.toUInt32 31)).toInt32) &&& 1431655765)) &&& 858993459) + ((((v0 - (((v0.toUInt32 >>> ((1 : Int32).toUInt32 &&& Int32.toUInt32 31)).toInt32) &&& 1431655765)).toUInt32 >>> ((2 : Int32).toUInt32 &&& Int32.toUInt32 31)).toInt32) &&& 858993459)) + (((((v0 - (((v0.toUInt32 >>> ((1 : Int32).toUInt32 &&& Int32.toUInt32 31)).toInt32) &&& 1431655765)) &&& 858993459) + ((((v0 - (((v0.toUInt32 >>> ((1 : Int32).toUInt32 &&& Int32.toUInt32 31)).toInt32) &&& 1431655765)).toUInt32 >>> ((2 : Int32).toUInt32 &&& Int32.toUInt32 31)).toInt32) &&& 858993459)).toUInt32 >>> ((4 : Int32).toUInt32 &&& Int32.toUInt32 31)).toInt32)) &&& 252645135).toUInt32 >>> ((8 : Int32).toUInt32 &&& Int32.toUInt32 31)).toInt32)) + ((((((((v0 - (((v0.toUInt32 >>> ((1 : Int32).toUInt32 &&& Int32.toUInt32 31)).toInt32) &&& 1431655765)) &&& 858993459) + ((((v0 - (((v0.toUInt32 >>> ((1 : Int32).toUInt32 &&& Int32.toUInt32 31)).toInt32) &&& 1431655765)).toUInt32 >>> ((2 : Int32).toUInt32 &&& Int32.toUInt32 31)).toInt32) &&& 858993459)) + (((((v0 - (((v0.toUInt32 >>> ((1 : Int32).toUInt32 &&& Int32.toUInt32 31)).toInt32) &&& 1431655765)) &&& 858993459) + ((((v0 - (((v0.toUInt32 >>> ((1 : Int32).toUInt32 &&& Int32.toUInt32 31)).toInt32) &&& 1431655765)).toUInt32 >>> ((2 : Int32).toUInt32 &&& Int32.toUInt32 31)).toInt32) &&& 858993459)).toUInt32 >>> ((4 : Int32).toUInt32 &&& Int32.toUInt32 31)).toInt32)) &&& 252645135) + (((((((v0 - (((v0.toUInt32 >>> ((1 : Int32).toUInt32 &&& Int32.toUInt32 31)).toInt32) &&& 1431655765)) &&& 858993459) + ((((v0 - (((v0.toUInt32 >>> ((1 : Int32).toUInt32 &&& Int32.toUInt32 31)).toInt32) &&& 1431655765)).toUInt32 >>> ((2 : Int32).toUInt32 &&& Int32.toUInt32 31)).toInt32) &&& 858993459)) + (((((v0 - (((v0.toUInt32 >>> ((1 : Int32).toUInt32 &&& Int32.toUInt32 31)).toInt32) &&& 1431655765)) &&& 858993459) + ((((v0 - (((v0.toUInt32 >>> ((1 : Int32).toUInt32 &&& Int32.toUInt32 31)).toInt32) &&& 1431655765)).toUInt32 >>> ((2 : Int32).toUInt32 &&& Int32.toUInt32 31)).toInt32) &&& 858993459)).toUInt32 >>> ((4 : Int32).toUInt32 &&& Int32.toUInt32 31)).toInt32)) &&& 252645135).toUInt32 >>> ((8 : Int32).toUInt32 &&& Int32.toUInt32 31)).toInt32)).toUInt32 >>> ((16 : Int32).toUInt32 &&& Int32.toUInt32 31)).toInt32)) &&& 63))) M) :
    pg_At S Λ YJ6_bitCount_0f7a4 d 0 [(0, .int v0)] [] M P := by
  refine pg_iload_n (pc := 0) (i := 0) (j := 0) (x := v0) dJ6_bitCount_0f7a4_0 rfl rfl ?_
  refine pg_iload_n (pc := 1) (i := 0) (j := 0) (x := v0) dJ6_bitCount_0f7a4_1 rfl rfl ?_
  refine pg_iconst (pc := 2) (v := 1) dJ6_bitCount_0f7a4_2 (by decide) ?_
  refine pg_iushr (pc := 3) dJ6_bitCount_0f7a4_3 rfl ?_
  refine pg_ldcw (pc := 4) (v := 1431655765) kJ6_265 dJ6_bitCount_0f7a4_4 ?_
  refine pg_iand (pc := 7) dJ6_bitCount_0f7a4_7 ?_
  refine pg_isub (pc := 8) dJ6_bitCount_0f7a4_8 ?_
  refine pg_istore_n (pc := 9) (i := 0) (ls' := [(0, .int (v0 - (((v0.toUInt32 >>> ((1 : Int32).toUInt32 &&& Int32.toUInt32 31)).toInt32) &&& 1431655765)))]) dJ6_bitCount_0f7a4_9 rfl (by decide) rfl ?_
  refine pg_iload_n (pc := 10) (i := 0) (j := 0) (x := (v0 - (((v0.toUInt32 >>> ((1 : Int32).toUInt32 &&& Int32.toUInt32 31)).toInt32) &&& 1431655765))) dJ6_bitCount_0f7a4_10 rfl rfl ?_
  refine pg_ldcw (pc := 11) (v := 858993459) kJ6_266 dJ6_bitCount_0f7a4_11 ?_
  refine pg_iand (pc := 14) dJ6_bitCount_0f7a4_14 ?_
  refine pg_iload_n (pc := 15) (i := 0) (j := 0) (x := (v0 - (((v0.toUInt32 >>> ((1 : Int32).toUInt32 &&& Int32.toUInt32 31)).toInt32) &&& 1431655765))) dJ6_bitCount_0f7a4_15 rfl rfl ?_
  refine pg_iconst (pc := 16) (v := 2) dJ6_bitCount_0f7a4_16 (by decide) ?_
  refine pg_iushr (pc := 17) dJ6_bitCount_0f7a4_17 rfl ?_
  refine pg_ldcw (pc := 18) (v := 858993459) kJ6_266 dJ6_bitCount_0f7a4_18 ?_
  refine pg_iand (pc := 21) dJ6_bitCount_0f7a4_21 ?_
  refine pg_iadd (pc := 22) dJ6_bitCount_0f7a4_22 ?_
  refine pg_istore_n (pc := 23) (i := 0) (ls' := [(0, .int (((v0 - (((v0.toUInt32 >>> ((1 : Int32).toUInt32 &&& Int32.toUInt32 31)).toInt32) &&& 1431655765)) &&& 858993459) + ((((v0 - (((v0.toUInt32 >>> ((1 : Int32).toUInt32 &&& Int32.toUInt32 31)).toInt32) &&& 1431655765)).toUInt32 >>> ((2 : Int32).toUInt32 &&& Int32.toUInt32 31)).toInt32) &&& 858993459)))]) dJ6_bitCount_0f7a4_23 rfl (by decide) rfl ?_
  refine pg_iload_n (pc := 24) (i := 0) (j := 0) (x := (((v0 - (((v0.toUInt32 >>> ((1 : Int32).toUInt32 &&& Int32.toUInt32 31)).toInt32) &&& 1431655765)) &&& 858993459) + ((((v0 - (((v0.toUInt32 >>> ((1 : Int32).toUInt32 &&& Int32.toUInt32 31)).toInt32) &&& 1431655765)).toUInt32 >>> ((2 : Int32).toUInt32 &&& Int32.toUInt32 31)).toInt32) &&& 858993459))) dJ6_bitCount_0f7a4_24 rfl rfl ?_
  refine pg_iload_n (pc := 25) (i := 0) (j := 0) (x := (((v0 - (((v0.toUInt32 >>> ((1 : Int32).toUInt32 &&& Int32.toUInt32 31)).toInt32) &&& 1431655765)) &&& 858993459) + ((((v0 - (((v0.toUInt32 >>> ((1 : Int32).toUInt32 &&& Int32.toUInt32 31)).toInt32) &&& 1431655765)).toUInt32 >>> ((2 : Int32).toUInt32 &&& Int32.toUInt32 31)).toInt32) &&& 858993459))) dJ6_bitCount_0f7a4_25 rfl rfl ?_
  refine pg_iconst (pc := 26) (v := 4) dJ6_bitCount_0f7a4_26 (by decide) ?_
  refine pg_iushr (pc := 27) dJ6_bitCount_0f7a4_27 rfl ?_
  refine pg_iadd (pc := 28) dJ6_bitCount_0f7a4_28 ?_
  refine pg_ldcw (pc := 29) (v := 252645135) kJ6_267 dJ6_bitCount_0f7a4_29 ?_
  refine pg_iand (pc := 32) dJ6_bitCount_0f7a4_32 ?_
  refine pg_istore_n (pc := 33) (i := 0) (ls' := [(0, .int (((((v0 - (((v0.toUInt32 >>> ((1 : Int32).toUInt32 &&& Int32.toUInt32 31)).toInt32) &&& 1431655765)) &&& 858993459) + ((((v0 - (((v0.toUInt32 >>> ((1 : Int32).toUInt32 &&& Int32.toUInt32 31)).toInt32) &&& 1431655765)).toUInt32 >>> ((2 : Int32).toUInt32 &&& Int32.toUInt32 31)).toInt32) &&& 858993459)) + (((((v0 - (((v0.toUInt32 >>> ((1 : Int32).toUInt32 &&& Int32.toUInt32 31)).toInt32) &&& 1431655765)) &&& 858993459) + ((((v0 - (((v0.toUInt32 >>> ((1 : Int32).toUInt32 &&& Int32.toUInt32 31)).toInt32) &&& 1431655765)).toUInt32 >>> ((2 : Int32).toUInt32 &&& Int32.toUInt32 31)).toInt32) &&& 858993459)).toUInt32 >>> ((4 : Int32).toUInt32 &&& Int32.toUInt32 31)).toInt32)) &&& 252645135))]) dJ6_bitCount_0f7a4_33 rfl (by decide) rfl ?_
  refine pg_iload_n (pc := 34) (i := 0) (j := 0) (x := (((((v0 - (((v0.toUInt32 >>> ((1 : Int32).toUInt32 &&& Int32.toUInt32 31)).toInt32) &&& 1431655765)) &&& 858993459) + ((((v0 - (((v0.toUInt32 >>> ((1 : Int32).toUInt32 &&& Int32.toUInt32 31)).toInt32) &&& 1431655765)).toUInt32 >>> ((2 : Int32).toUInt32 &&& Int32.toUInt32 31)).toInt32) &&& 858993459)) + (((((v0 - (((v0.toUInt32 >>> ((1 : Int32).toUInt32 &&& Int32.toUInt32 31)).toInt32) &&& 1431655765)) &&& 858993459) + ((((v0 - (((v0.toUInt32 >>> ((1 : Int32).toUInt32 &&& Int32.toUInt32 31)).toInt32) &&& 1431655765)).toUInt32 >>> ((2 : Int32).toUInt32 &&& Int32.toUInt32 31)).toInt32) &&& 858993459)).toUInt32 >>> ((4 : Int32).toUInt32 &&& Int32.toUInt32 31)).toInt32)) &&& 252645135)) dJ6_bitCount_0f7a4_34 rfl rfl ?_
  refine pg_iload_n (pc := 35) (i := 0) (j := 0) (x := (((((v0 - (((v0.toUInt32 >>> ((1 : Int32).toUInt32 &&& Int32.toUInt32 31)).toInt32) &&& 1431655765)) &&& 858993459) + ((((v0 - (((v0.toUInt32 >>> ((1 : Int32).toUInt32 &&& Int32.toUInt32 31)).toInt32) &&& 1431655765)).toUInt32 >>> ((2 : Int32).toUInt32 &&& Int32.toUInt32 31)).toInt32) &&& 858993459)) + (((((v0 - (((v0.toUInt32 >>> ((1 : Int32).toUInt32 &&& Int32.toUInt32 31)).toInt32) &&& 1431655765)) &&& 858993459) + ((((v0 - (((v0.toUInt32 >>> ((1 : Int32).toUInt32 &&& Int32.toUInt32 31)).toInt32) &&& 1431655765)).toUInt32 >>> ((2 : Int32).toUInt32 &&& Int32.toUInt32 31)).toInt32) &&& 858993459)).toUInt32 >>> ((4 : Int32).toUInt32 &&& Int32.toUInt32 31)).toInt32)) &&& 252645135)) dJ6_bitCount_0f7a4_35 rfl rfl ?_
  refine pg_bipush (pc := 36) (v := 8) dJ6_bitCount_0f7a4_36 (by decide) ?_
  refine pg_iushr (pc := 38) dJ6_bitCount_0f7a4_38 rfl ?_
  refine pg_iadd (pc := 39) dJ6_bitCount_0f7a4_39 ?_
  refine pg_istore_n (pc := 40) (i := 0) (ls' := [(0, .int ((((((v0 - (((v0.toUInt32 >>> ((1 : Int32).toUInt32 &&& Int32.toUInt32 31)).toInt32) &&& 1431655765)) &&& 858993459) + ((((v0 - (((v0.toUInt32 >>> ((1 : Int32).toUInt32 &&& Int32.toUInt32 31)).toInt32) &&& 1431655765)).toUInt32 >>> ((2 : Int32).toUInt32 &&& Int32.toUInt32 31)).toInt32) &&& 858993459)) + (((((v0 - (((v0.toUInt32 >>> ((1 : Int32).toUInt32 &&& Int32.toUInt32 31)).toInt32) &&& 1431655765)) &&& 858993459) + ((((v0 - (((v0.toUInt32 >>> ((1 : Int32).toUInt32 &&& Int32.toUInt32 31)).toInt32) &&& 1431655765)).toUInt32 >>> ((2 : Int32).toUInt32 &&& Int32.toUInt32 31)).toInt32) &&& 858993459)).toUInt32 >>> ((4 : Int32).toUInt32 &&& Int32.toUInt32 31)).toInt32)) &&& 252645135) + (((((((v0 - (((v0.toUInt32 >>> ((1 : Int32).toUInt32 &&& Int32.toUInt32 31)).toInt32) &&& 1431655765)) &&& 858993459) + ((((v0 - (((v0.toUInt32 >>> ((1 : Int32).toUInt32 &&& Int32.toUInt32 31)).toInt32) &&& 1431655765)).toUInt32 >>> ((2 : Int32).toUInt32 &&& Int32.toUInt32 31)).toInt32) &&& 858993459)) + (((((v0 - (((v0.toUInt32 >>> ((1 : Int32).toUInt32 &&& Int32.toUInt32 31)).toInt32) &&& 1431655765)) &&& 858993459) + ((((v0 - (((v0.toUInt32 >>> ((1 : Int32).toUInt32 &&& Int32.toUInt32 31)).toInt32) &&& 1431655765)).toUInt32 >>> ((2 : Int32).toUInt32 &&& Int32.toUInt32 31)).toInt32) &&& 858993459)).toUInt32 >>> ((4 : Int32).toUInt32 &&& Int32.toUInt32 31)).toInt32)) &&& 252645135).toUInt32 >>> ((8 : Int32).toUInt32 &&& Int32.toUInt32 31)).toInt32)))]) dJ6_bitCount_0f7a4_40 rfl (by decide) rfl ?_
  refine pg_iload_n (pc := 41) (i := 0) (j := 0) (x := ((((((v0 - (((v0.toUInt32 >>> ((1 : Int32).toUInt32 &&& Int32.toUInt32 31)).toInt32) &&& 1431655765)) &&& 858993459) + ((((v0 - (((v0.toUInt32 >>> ((1 : Int32).toUInt32 &&& Int32.toUInt32 31)).toInt32) &&& 1431655765)).toUInt32 >>> ((2 : Int32).toUInt32 &&& Int32.toUInt32 31)).toInt32) &&& 858993459)) + (((((v0 - (((v0.toUInt32 >>> ((1 : Int32).toUInt32 &&& Int32.toUInt32 31)).toInt32) &&& 1431655765)) &&& 858993459) + ((((v0 - (((v0.toUInt32 >>> ((1 : Int32).toUInt32 &&& Int32.toUInt32 31)).toInt32) &&& 1431655765)).toUInt32 >>> ((2 : Int32).toUInt32 &&& Int32.toUInt32 31)).toInt32) &&& 858993459)).toUInt32 >>> ((4 : Int32).toUInt32 &&& Int32.toUInt32 31)).toInt32)) &&& 252645135) + (((((((v0 - (((v0.toUInt32 >>> ((1 : Int32).toUInt32 &&& Int32.toUInt32 31)).toInt32) &&& 1431655765)) &&& 858993459) + ((((v0 - (((v0.toUInt32 >>> ((1 : Int32).toUInt32 &&& Int32.toUInt32 31)).toInt32) &&& 1431655765)).toUInt32 >>> ((2 : Int32).toUInt32 &&& Int32.toUInt32 31)).toInt32) &&& 858993459)) + (((((v0 - (((v0.toUInt32 >>> ((1 : Int32).toUInt32 &&& Int32.toUInt32 31)).toInt32) &&& 1431655765)) &&& 858993459) + ((((v0 - (((v0.toUInt32 >>> ((1 : Int32).toUInt32 &&& Int32.toUInt32 31)).toInt32) &&& 1431655765)).toUInt32 >>> ((2 : Int32).toUInt32 &&& Int32.toUInt32 31)).toInt32) &&& 858993459)).toUInt32 >>> ((4 : Int32).toUInt32 &&& Int32.toUInt32 31)).toInt32)) &&& 252645135).toUInt32 >>> ((8 : Int32).toUInt32 &&& Int32.toUInt32 31)).toInt32))) dJ6_bitCount_0f7a4_41 rfl rfl ?_
  refine pg_iload_n (pc := 42) (i := 0) (j := 0) (x := ((((((v0 - (((v0.toUInt32 >>> ((1 : Int32).toUInt32 &&& Int32.toUInt32 31)).toInt32) &&& 1431655765)) &&& 858993459) + ((((v0 - (((v0.toUInt32 >>> ((1 : Int32).toUInt32 &&& Int32.toUInt32 31)).toInt32) &&& 1431655765)).toUInt32 >>> ((2 : Int32).toUInt32 &&& Int32.toUInt32 31)).toInt32) &&& 858993459)) + (((((v0 - (((v0.toUInt32 >>> ((1 : Int32).toUInt32 &&& Int32.toUInt32 31)).toInt32) &&& 1431655765)) &&& 858993459) + ((((v0 - (((v0.toUInt32 >>> ((1 : Int32).toUInt32 &&& Int32.toUInt32 31)).toInt32) &&& 1431655765)).toUInt32 >>> ((2 : Int32).toUInt32 &&& Int32.toUInt32 31)).toInt32) &&& 858993459)).toUInt32 >>> ((4 : Int32).toUInt32 &&& Int32.toUInt32 31)).toInt32)) &&& 252645135) + (((((((v0 - (((v0.toUInt32 >>> ((1 : Int32).toUInt32 &&& Int32.toUInt32 31)).toInt32) &&& 1431655765)) &&& 858993459) + ((((v0 - (((v0.toUInt32 >>> ((1 : Int32).toUInt32 &&& Int32.toUInt32 31)).toInt32) &&& 1431655765)).toUInt32 >>> ((2 : Int32).toUInt32 &&& Int32.toUInt32 31)).toInt32) &&& 858993459)) + (((((v0 - (((v0.toUInt32 >>> ((1 : Int32).toUInt32 &&& Int32.toUInt32 31)).toInt32) &&& 1431655765)) &&& 858993459) + ((((v0 - (((v0.toUInt32 >>> ((1 : Int32).toUInt32 &&& Int32.toUInt32 31)).toInt32) &&& 1431655765)).toUInt32 >>> ((2 : Int32).toUInt32 &&& Int32.toUInt32 31)).toInt32) &&& 858993459)).toUInt32 >>> ((4 : Int32).toUInt32 &&& Int32.toUInt32 31)).toInt32)) &&& 252645135).toUInt32 >>> ((8 : Int32).toUInt32 &&& Int32.toUInt32 31)).toInt32))) dJ6_bitCount_0f7a4_42 rfl rfl ?_
  refine pg_bipush (pc := 43) (v := 16) dJ6_bitCount_0f7a4_43 (by decide) ?_
  refine pg_iushr (pc := 45) dJ6_bitCount_0f7a4_45 rfl ?_
  refine pg_iadd (pc := 46) dJ6_bitCount_0f7a4_46 ?_
  refine pg_istore_n (pc := 47) (i := 0) (ls' := [(0, .int (((((((v0 - (((v0.toUInt32 >>> ((1 : Int32).toUInt32 &&& Int32.toUInt32 31)).toInt32) &&& 1431655765)) &&& 858993459) + ((((v0 - (((v0.toUInt32 >>> ((1 : Int32).toUInt32 &&& Int32.toUInt32 31)).toInt32) &&& 1431655765)).toUInt32 >>> ((2 : Int32).toUInt32 &&& Int32.toUInt32 31)).toInt32) &&& 858993459)) + (((((v0 - (((v0.toUInt32 >>> ((1 : Int32).toUInt32 &&& Int32.toUInt32 31)).toInt32) &&& 1431655765)) &&& 858993459) + ((((v0 - (((v0.toUInt32 >>> ((1 : Int32).toUInt32 &&& Int32.toUInt32 31)).toInt32) &&& 1431655765)).toUInt32 >>> ((2 : Int32).toUInt32 &&& Int32.toUInt32 31)).toInt32) &&& 858993459)).toUInt32 >>> ((4 : Int32).toUInt32 &&& Int32.toUInt32 31)).toInt32)) &&& 252645135) + (((((((v0 - (((v0.toUInt32 >>> ((1 : Int32).toUInt32 &&& Int32.toUInt32 31)).toInt32) &&& 1431655765)) &&& 858993459) + ((((v0 - (((v0.toUInt32 >>> ((1 : Int32).toUInt32 &&& Int32.toUInt32 31)).toInt32) &&& 1431655765)).toUInt32 >>> ((2 : Int32).toUInt32 &&& Int32.toUInt32 31)).toInt32) &&& 858993459)) + (((((v0 - (((v0.toUInt32 >>> ((1 : Int32).toUInt32 &&& Int32.toUInt32 31)).toInt32) &&& 1431655765)) &&& 858993459) + ((((v0 - (((v0.toUInt32 >>> ((1 : Int32).toUInt32 &&& Int32.toUInt32 31)).toInt32) &&& 1431655765)).toUInt32 >>> ((2 : Int32).toUInt32 &&& Int32.toUInt32 31)).toInt32) &&& 858993459)).toUInt32 >>> ((4 : Int32).toUInt32 &&& Int32.toUInt32 31)).toInt32)) &&& 252645135).toUInt32 >>> ((8 : Int32).toUInt32 &&& Int32.toUInt32 31)).toInt32)) + ((((((((v0 - (((v0.toUInt32 >>> ((1 : Int32).toUInt32 &&& Int32.toUInt32 31)).toInt32) &&& 1431655765)) &&& 858993459) + ((((v0 - (((v0.toUInt32 >>> ((1 : Int32).toUInt32 &&& Int32.toUInt32 31)).toInt32) &&& 1431655765)).toUInt32 >>> ((2 : Int32).toUInt32 &&& Int32.toUInt32 31)).toInt32) &&& 858993459)) + (((((v0 - (((v0.toUInt32 >>> ((1 : Int32).toUInt32 &&& Int32.toUInt32 31)).toInt32) &&& 1431655765)) &&& 858993459) + ((((v0 - (((v0.toUInt32 >>> ((1 : Int32).toUInt32 &&& Int32.toUInt32 31)).toInt32) &&& 1431655765)).toUInt32 >>> ((2 : Int32).toUInt32 &&& Int32.toUInt32 31)).toInt32) &&& 858993459)).toUInt32 >>> ((4 : Int32).toUInt32 &&& Int32.toUInt32 31)).toInt32)) &&& 252645135) + (((((((v0 - (((v0.toUInt32 >>> ((1 : Int32).toUInt32 &&& Int32.toUInt32 31)).toInt32) &&& 1431655765)) &&& 858993459) + ((((v0 - (((v0.toUInt32 >>> ((1 : Int32).toUInt32 &&& Int32.toUInt32 31)).toInt32) &&& 1431655765)).toUInt32 >>> ((2 : Int32).toUInt32 &&& Int32.toUInt32 31)).toInt32) &&& 858993459)) + (((((v0 - (((v0.toUInt32 >>> ((1 : Int32).toUInt32 &&& Int32.toUInt32 31)).toInt32) &&& 1431655765)) &&& 858993459) + ((((v0 - (((v0.toUInt32 >>> ((1 : Int32).toUInt32 &&& Int32.toUInt32 31)).toInt32) &&& 1431655765)).toUInt32 >>> ((2 : Int32).toUInt32 &&& Int32.toUInt32 31)).toInt32) &&& 858993459)).toUInt32 >>> ((4 : Int32).toUInt32 &&& Int32.toUInt32 31)).toInt32)) &&& 252645135).toUInt32 >>> ((8 : Int32).toUInt32 &&& Int32.toUInt32 31)).toInt32)).toUInt32 >>> ((16 : Int32).toUInt32 &&& Int32.toUInt32 31)).toInt32)))]) dJ6_bitCount_0f7a4_47 rfl (by decide) rfl ?_
  refine pg_iload_n (pc := 48) (i := 0) (j := 0) (x := (((((((v0 - (((v0.toUInt32 >>> ((1 : Int32).toUInt32 &&& Int32.toUInt32 31)).toInt32) &&& 1431655765)) &&& 858993459) + ((((v0 - (((v0.toUInt32 >>> ((1 : Int32).toUInt32 &&& Int32.toUInt32 31)).toInt32) &&& 1431655765)).toUInt32 >>> ((2 : Int32).toUInt32 &&& Int32.toUInt32 31)).toInt32) &&& 858993459)) + (((((v0 - (((v0.toUInt32 >>> ((1 : Int32).toUInt32 &&& Int32.toUInt32 31)).toInt32) &&& 1431655765)) &&& 858993459) + ((((v0 - (((v0.toUInt32 >>> ((1 : Int32).toUInt32 &&& Int32.toUInt32 31)).toInt32) &&& 1431655765)).toUInt32 >>> ((2 : Int32).toUInt32 &&& Int32.toUInt32 31)).toInt32) &&& 858993459)).toUInt32 >>> ((4 : Int32).toUInt32 &&& Int32.toUInt32 31)).toInt32)) &&& 252645135) + (((((((v0 - (((v0.toUInt32 >>> ((1 : Int32).toUInt32 &&& Int32.toUInt32 31)).toInt32) &&& 1431655765)) &&& 858993459) + ((((v0 - (((v0.toUInt32 >>> ((1 : Int32).toUInt32 &&& Int32.toUInt32 31)).toInt32) &&& 1431655765)).toUInt32 >>> ((2 : Int32).toUInt32 &&& Int32.toUInt32 31)).toInt32) &&& 858993459)) + (((((v0 - (((v0.toUInt32 >>> ((1 : Int32).toUInt32 &&& Int32.toUInt32 31)).toInt32) &&& 1431655765)) &&& 858993459) + ((((v0 - (((v0.toUInt32 >>> ((1 : Int32).toUInt32 &&& Int32.toUInt32 31)).toInt32) &&& 1431655765)).toUInt32 >>> ((2 : Int32).toUInt32 &&& Int32.toUInt32 31)).toInt32) &&& 858993459)).toUInt32 >>> ((4 : Int32).toUInt32 &&& Int32.toUInt32 31)).toInt32)) &&& 252645135).toUInt32 >>> ((8 : Int32).toUInt32 &&& Int32.toUInt32 31)).toInt32)) + ((((((((v0 - (((v0.toUInt32 >>> ((1 : Int32).toUInt32 &&& Int32.toUInt32 31)).toInt32) &&& 1431655765)) &&& 858993459) + ((((v0 - (((v0.toUInt32 >>> ((1 : Int32).toUInt32 &&& Int32.toUInt32 31)).toInt32) &&& 1431655765)).toUInt32 >>> ((2 : Int32).toUInt32 &&& Int32.toUInt32 31)).toInt32) &&& 858993459)) + (((((v0 - (((v0.toUInt32 >>> ((1 : Int32).toUInt32 &&& Int32.toUInt32 31)).toInt32) &&& 1431655765)) &&& 858993459) + ((((v0 - (((v0.toUInt32 >>> ((1 : Int32).toUInt32 &&& Int32.toUInt32 31)).toInt32) &&& 1431655765)).toUInt32 >>> ((2 : Int32).toUInt32 &&& Int32.toUInt32 31)).toInt32) &&& 858993459)).toUInt32 >>> ((4 : Int32).toUInt32 &&& Int32.toUInt32 31)).toInt32)) &&& 252645135) + (((((((v0 - (((v0.toUInt32 >>> ((1 : Int32).toUInt32 &&& Int32.toUInt32 31)).toInt32) &&& 1431655765)) &&& 858993459) + ((((v0 - (((v0.toUInt32 >>> ((1 : Int32).toUInt32 &&& Int32.toUInt32 31)).toInt32) &&& 1431655765)).toUInt32 >>> ((2 : Int32).toUInt32 &&& Int32.toUInt32 31)).toInt32) &&& 858993459)) + (((((v0 - (((v0.toUInt32 >>> ((1 : Int32).toUInt32 &&& Int32.toUInt32 31)).toInt32) &&& 1431655765)) &&& 858993459) + ((((v0 - (((v0.toUInt32 >>> ((1 : Int32).toUInt32 &&& Int32.toUInt32 31)).toInt32) &&& 1431655765)).toUInt32 >>> ((2 : Int32).toUInt32 &&& Int32.toUInt32 31)).toInt32) &&& 858993459)).toUInt32 >>> ((4 : Int32).toUInt32 &&& Int32.toUInt32 31)).toInt32)) &&& 252645135).toUInt32 >>> ((8 : Int32).toUInt32 &&& Int32.toUInt32 31)).toInt32)).toUInt32 >>> ((16 : Int32).toUInt32 &&& Int32.toUInt32 31)).toInt32))) dJ6_bitCount_0f7a4_48 rfl rfl ?_
  refine pg_bipush (pc := 49) (v := 63) dJ6_bitCount_0f7a4_49 (by decide) ?_
  refine pg_iand (pc := 51) dJ6_bitCount_0f7a4_51 ?_
  exact pg_iret (pc := 52) rfl dJ6_bitCount_0f7a4_52 k0
theorem oJ6_bitCount_0f7a4 {d : Nat} {v0 : Int32} (h : pg_At S Λ YJ6_bitCount_0f7a4 d 0 [(0, .int v0)] [] M P) : pg_Ev S Λ YJ6_bitCount_0f7a4 d [.int v0] M P := pg_Ev.of (by decide) (by first | decide | exact Nat.le_of_ble_eq_true rfl) h
theorem sJ6_lowestOneBit_0f7a4_0 {v0 : Int32} 
    (k0 : P (some (.int (v0 &&& (-v0)))) M) :
    pg_At S Λ YJ6_lowestOneBit_0f7a4 d 0 [(0, .int v0)] [] M P := by
  refine pg_iload_n (pc := 0) (i := 0) (j := 0) (x := v0) dJ6_lowestOneBit_0f7a4_0 rfl rfl ?_
  refine pg_iload_n (pc := 1) (i := 0) (j := 0) (x := v0) dJ6_lowestOneBit_0f7a4_1 rfl rfl ?_
  refine pg_ineg (pc := 2) dJ6_lowestOneBit_0f7a4_2 ?_
  refine pg_iand (pc := 3) dJ6_lowestOneBit_0f7a4_3 ?_
  exact pg_iret (pc := 4) rfl dJ6_lowestOneBit_0f7a4_4 k0
theorem oJ6_lowestOneBit_0f7a4 {d : Nat} {v0 : Int32} (h : pg_At S Λ YJ6_lowestOneBit_0f7a4 d 0 [(0, .int v0)] [] M P) : pg_Ev S Λ YJ6_lowestOneBit_0f7a4 d [.int v0] M P := pg_Ev.of (by decide) (by first | decide | exact Nat.le_of_ble_eq_true rfl) h
theorem sJ6_numberOfLeadingZeros_0f7a4_0 {v0 : Int32} 
    (k0 : (0 < v0) → (v0 < 65536) → pg_At S Λ YJ6_numberOfLeadingZeros_0f7a4 d 33 [(0, .int v0), (1, .int 31)] [] M P)
    (k1 : (0 < v0) → (¬ v0 < 65536) → pg_At S Λ YJ6_numberOfLeadingZeros_0f7a4 d 33 [(0, .int ((v0.toUInt32 >>> ((16 : Int32).toUInt32 &&& Int32.toUInt32 31)).toInt32)), (1, .int (31 + (-16)))] [] M P)
    (k2 : (¬ 0 < v0) → (¬ v0 = 0) → P (some (.int 0)) M)
    (k3 : (¬ 0 < v0) → (v0 = 0) → P (some (.int 32)) M) :
    pg_At S Λ YJ6_numberOfLeadingZeros_0f7a4 d 0 [(0, .int v0)] [] M P := by
  refine pg_iload_n (pc := 0) (i := 0) (j := 0) (x := v0) dJ6_numberOfLeadingZeros_0f7a4_0 rfl rfl ?_
  refine pg_if_gt (pc := 1) (tgt := 15) dJ6_numberOfLeadingZeros_0f7a4_1 (by decide) (fun c0 => ?_) (fun c0 => ?_)
  · skip
    refine pg_bipush (pc := 15) (v := 31) dJ6_numberOfLeadingZeros_0f7a4_15 (by decide) ?_
    refine pg_istore_n (pc := 17) (i := 1) (ls' := [(1, .int 31), (0, .int v0)]) dJ6_numberOfLeadingZeros_0f7a4_17 rfl (by decide) rfl ?_
    refine pg_iload_n (pc := 18) (i := 0) (j := 1) (x := v0) dJ6_numberOfLeadingZeros_0f7a4_18 rfl rfl ?_
    refine pg_ldcw (pc := 19) (v := 65536) kJ6_264 dJ6_numberOfLeadingZeros_0f7a4_19 ?_
    refine pg_icmp_lt (pc := 22) (tgt := 33) dJ6_numberOfLeadingZeros_0f7a4_22 (by decide) (fun c1 => ?_) (fun c1 => ?_)
    · skip
      refine pg_drop (ks := [1, 0]) (ls' := [(0, .int v0), (1, .int 31)]) rfl ?_
      exact k0 c0 c1
    · skip
      refine pg_iinc (pc := 25) (i := 1) (j := 0) (x := 31) (v := 31 + (-16)) (ls' := [(1, .int (31 + (-16))), (0, .int v0)]) dJ6_numberOfLeadingZeros_0f7a4_25 rfl rfl (by decide) rfl ?_
      refine pg_iload_n (pc := 28) (i := 0) (j := 1) (x := v0) dJ6_numberOfLeadingZeros_0f7a4_28 rfl rfl ?_
      refine pg_bipush (pc := 29) (v := 16) dJ6_numberOfLeadingZeros_0f7a4_29 (by decide) ?_
      refine pg_iushr (pc := 31) dJ6_numberOfLeadingZeros_0f7a4_31 rfl ?_
      refine pg_istore_n (pc := 32) (i := 0) (ls' := [(0, .int ((v0.toUInt32 >>> ((16 : Int32).toUInt32 &&& Int32.toUInt32 31)).toInt32)), (1, .int (31 + (-16)))]) dJ6_numberOfLeadingZeros_0f7a4_32 rfl (by decide) rfl ?_
      exact k1 c0 c1
  · skip
    refine pg_iload_n (pc := 4) (i := 0) (j := 0) (x := v0) dJ6_numberOfLeadingZeros_0f7a4_4 rfl rfl ?_
    refine pg_if_ne (pc := 5) (tgt := 13) dJ6_numberOfLeadingZeros_0f7a4_5 (by decide) (fun c1 => ?_) (fun c1 => ?_)
    · skip
      refine pg_iconst (pc := 13) (v := 0) dJ6_numberOfLeadingZeros_0f7a4_13 (by decide) ?_
      exact pg_iret (pc := 14) rfl dJ6_numberOfLeadingZeros_0f7a4_14 (k2 c0 c1)
    · skip
      refine pg_bipush (pc := 8) (v := 32) dJ6_numberOfLeadingZeros_0f7a4_8 (by decide) ?_
      refine pg_goto (pc := 10) (tgt := 14) dJ6_numberOfLeadingZeros_0f7a4_10 (by decide) ?_
      exact pg_iret (pc := 14) rfl dJ6_numberOfLeadingZeros_0f7a4_14 (k3 c0 c1)
theorem sJ6_numberOfLeadingZeros_0f7a4_33 {v0 : Int32} {v1 : Int32} 
    (k0 : (v0 < 256) → (v0 < 16) → (v0 < 4) → P (some (.int (v1 - ((v0.toUInt32 >>> ((1 : Int32).toUInt32 &&& Int32.toUInt32 31)).toInt32)))) M)
    (k1 : (v0 < 256) → (v0 < 16) → (¬ v0 < 4) → P (some (.int ((v1 + (-2)) - ((((v0.toUInt32 >>> ((2 : Int32).toUInt32 &&& Int32.toUInt32 31)).toInt32).toUInt32 >>> ((1 : Int32).toUInt32 &&& Int32.toUInt32 31)).toInt32)))) M)
    (k2 : (v0 < 256) → (¬ v0 < 16) → (((v0.toUInt32 >>> ((4 : Int32).toUInt32 &&& Int32.toUInt32 31)).toInt32) < 4) → P (some (.int ((v1 + (-4)) - ((((v0.toUInt32 >>> ((4 : Int32).toUInt32 &&& Int32.toUInt32 31)).toInt32).toUInt32 >>> ((1 : Int32).toUInt32 &&& Int32.toUInt32 31)).toInt32)))) M)
    (k3 : (v0 < 256) → (¬ v0 < 16) → (¬ ((v0.toUInt32 >>> ((4 : Int32).toUInt32 &&& Int32.toUInt32 31)).toInt32) < 4) → P (some (.int (((v1 + (-4)) + (-2)) - ((((((v0.toUInt32 >>> ((4 : Int32).toUInt32 &&& Int32.toUInt32 31)).toInt32).toUInt32 >>> ((2 : Int32).toUInt32 &&& Int32.toUInt32 31)).toInt32).toUInt32 >>> ((1 : Int32).toUInt32 &&& Int32.toUInt32 31)).toInt32)))) M)
    (k4 : (¬ v0 < 256) → (((v0.toUInt32 >>> ((8 : Int32).toUInt32 &&& Int32.toUInt32 31)).toInt32) < 16) → (((v0.toUInt32 >>> ((8 : Int32).toUInt32 &&& Int32.toUInt32 31)).toInt32) < 4) → P (some (.int ((v1 + (-8)) - ((((v0.toUInt32 >>> ((8 : Int32).toUInt32 &&& Int32.toUInt32 31)).toInt32).toUInt32 >>> ((1 : Int32).toUInt32 &&& Int32.toUInt32 31)).toInt32)))) M)
    (k5 : (¬ v0 < 256) → (((v0.toUInt32 >>> ((8 : Int32).toUInt32 &&& Int32.toUInt32 31)).toInt32) < 16) → (¬ ((v0.toUInt32 >>> ((8 : Int32).toUInt32 &&& Int32.toUInt32 31)).toInt32) < 4) → P (some (.int (((v1 + (-8)) + (-2)) - ((((((v0.toUInt32 >>> ((8 : Int32).toUInt32 &&& Int32.toUInt32 31)).toInt32).toUInt32 >>> ((2 : Int32).toUInt32 &&& Int32.toUInt32 31)).toInt32).toUInt32 >>> ((1 : Int32).toUInt32 &&& Int32.toUInt32 31)).toInt32)))) M)
    (k6 : (¬ v0 < 256) → (¬ ((v0.toUInt32 >>> ((8 : Int32).toUInt32 &&& Int32.toUInt32 31)).toInt32) < 16) → (((((v0.toUInt32 >>> ((8 : Int32).toUInt32 &&& Int32.toUInt32 31)).toInt32).toUInt32 >>> ((4 : Int32).toUInt32 &&& Int32.toUInt32 31)).toInt32) < 4) → P (some (.int (((v1 + (-8)) + (-4)) - ((((((v0.toUInt32 >>> ((8 : Int32).toUInt32 &&& Int32.toUInt32 31)).toInt32).toUInt32 >>> ((4 : Int32).toUInt32 &&& Int32.toUInt32 31)).toInt32).toUInt32 >>> ((1 : Int32).toUInt32 &&& Int32.toUInt32 31)).toInt32)))) M)
    (k7 : (¬ v0 < 256) → (¬ ((v0.toUInt32 >>> ((8 : Int32).toUInt32 &&& Int32.toUInt32 31)).toInt32) < 16) → (¬ ((((v0.toUInt32 >>> ((8 : Int32).toUInt32 &&& Int32.toUInt32 31)).toInt32).toUInt32 >>> ((4 : Int32).toUInt32 &&& Int32.toUInt32 31)).toInt32) < 4) → P (some (.int ((((v1 + (-8)) + (-4)) + (-2)) - ((((((((v0.toUInt32 >>> ((8 : Int32).toUInt32 &&& Int32.toUInt32 31)).toInt32).toUInt32 >>> ((4 : Int32).toUInt32 &&& Int32.toUInt32 31)).toInt32).toUInt32 >>> ((2 : Int32).toUInt32 &&& Int32.toUInt32 31)).toInt32).toUInt32 >>> ((1 : Int32).toUInt32 &&& Int32.toUInt32 31)).toInt32)))) M) :
    pg_At S Λ YJ6_numberOfLeadingZeros_0f7a4 d 33 [(0, .int v0), (1, .int v1)] [] M P := by
  refine pg_iload_n (pc := 33) (i := 0) (j := 0) (x := v0) dJ6_numberOfLeadingZeros_0f7a4_33 rfl rfl ?_
  refine pg_sipush (pc := 34) (v := 256) dJ6_numberOfLeadingZeros_0f7a4_34 (by decide) ?_
  refine pg_icmp_lt (pc := 37) (tgt := 48) dJ6_numberOfLeadingZeros_0f7a4_37 (by decide) (fun c0 => ?_) (fun c0 => ?_)
  · skip
    refine pg_iload_n (pc := 48) (i := 0) (j := 0) (x := v0) dJ6_numberOfLeadingZeros_0f7a4_48 rfl rfl ?_
    refine pg_bipush (pc := 49) (v := 16) dJ6_numberOfLeadingZeros_0f7a4_49 (by decide) ?_
    refine pg_icmp_lt (pc := 51) (tgt := 61) dJ6_numberOfLeadingZeros_0f7a4_51 (by decide) (fun c1 => ?_) (fun c1 => ?_)
    · skip
      refine pg_iload_n (pc := 61) (i := 0) (j := 0) (x := v0) dJ6_numberOfLeadingZeros_0f7a4_61 rfl rfl ?_
      refine pg_iconst (pc := 62) (v := 4) dJ6_numberOfLeadingZeros_0f7a4_62 (by decide) ?_
      refine pg_icmp_lt (pc := 63) (tgt := 73) dJ6_numberOfLeadingZeros_0f7a4_63 (by decide) (fun c2 => ?_) (fun c2 => ?_)
      · skip
        refine pg_iload_n (pc := 73) (i := 1) (j := 1) (x := v1) dJ6_numberOfLeadingZeros_0f7a4_73 rfl rfl ?_
        refine pg_iload_n (pc := 74) (i := 0) (j := 0) (x := v0) dJ6_numberOfLeadingZeros_0f7a4_74 rfl rfl ?_
        refine pg_iconst (pc := 75) (v := 1) dJ6_numberOfLeadingZeros_0f7a4_75 (by decide) ?_
        refine pg_iushr (pc := 76) dJ6_numberOfLeadingZeros_0f7a4_76 rfl ?_
        refine pg_isub (pc := 77) dJ6_numberOfLeadingZeros_0f7a4_77 ?_
        exact pg_iret (pc := 78) rfl dJ6_numberOfLeadingZeros_0f7a4_78 (k0 c0 c1 c2)
      · skip
        refine pg_iinc (pc := 66) (i := 1) (j := 1) (x := v1) (v := v1 + (-2)) (ls' := [(1, .int (v1 + (-2))), (0, .int v0)]) dJ6_numberOfLeadingZeros_0f7a4_66 rfl rfl (by decide) rfl ?_
        refine pg_iload_n (pc := 69) (i := 0) (j := 1) (x := v0) dJ6_numberOfLeadingZeros_0f7a4_69 rfl rfl ?_
        refine pg_iconst (pc := 70) (v := 2) dJ6_numberOfLeadingZeros_0f7a4_70 (by decide) ?_
        refine pg_iushr (pc := 71) dJ6_numberOfLeadingZeros_0f7a4_71 rfl ?_
        refine pg_istore_n (pc := 72) (i := 0) (ls' := [(0, .int ((v0.toUInt32 >>> ((2 : Int32).toUInt32 &&& Int32.toUInt32 31)).toInt32)), (1, .int (v1 + (-2)))]) dJ6_numberOfLeadingZeros_0f7a4_72 rfl (by decide) rfl ?_
        refine pg_iload_n (pc := 73) (i := 1) (j := 1) (x := (v1 + (-2))) dJ6_numberOfLeadingZeros_0f7a4_73 rfl rfl ?_
        refine pg_iload_n (pc := 74) (i := 0) (j := 0) (x := (v0.toUInt32 >>> ((2 : Int32).toUInt32 &&& Int32.toUInt32 31)).toInt32) dJ6_numberOfLeadingZeros_0f7a4_74 rfl rfl ?_
        refine pg_iconst (pc := 75) (v := 1) dJ6_numberOfLeadingZeros_0f7a4_75 (by decide) ?_
        refine pg_iushr (pc := 76) dJ6_numberOfLeadingZeros_0f7a4_76 rfl ?_
        refine pg_isub (pc := 77) dJ6_numberOfLeadingZeros_0f7a4_77 ?_
        exact pg_iret (pc := 78) rfl dJ6_numberOfLeadingZeros_0f7a4_78 (k1 c0 c1 c2)
    · skip
      refine pg_iinc (pc := 54) (i := 1) (j := 1) (x := v1) (v := v1 + (-4)) (ls' := [(1, .int (v1 + (-4))), (0, .int v0)]) dJ6_numberOfLeadingZeros_0f7a4_54 rfl rfl (by decide) rfl ?_
      refine pg_iload_n (pc := 57) (i := 0) (j := 1) (x := v0) dJ6_numberOfLeadingZeros_0f7a4_57 rfl rfl ?_
      refine pg_iconst (pc := 58) (v := 4) dJ6_numberOfLeadingZeros_0f7a4_58 (by decide) ?_
      refine pg_iushr (pc := 59) dJ6_numberOfLeadingZeros_0f7a4_59 rfl ?_
      refine pg_istore_n (pc := 60) (i := 0) (ls' := [(0, .int ((v0.toUInt32 >>> ((4 : Int32).toUInt32 &&& Int32.toUInt32 31)).toInt32)), (1, .int (v1 + (-4)))]) dJ6_numberOfLeadingZeros_0f7a4_60 rfl (by decide) rfl ?_
      refine pg_iload_n (pc := 61) (i := 0) (j := 0) (x := (v0.toUInt32 >>> ((4 : Int32).toUInt32 &&& Int32.toUInt32 31)).toInt32) dJ6_numberOfLeadingZeros_0f7a4_61 rfl rfl ?_
      refine pg_iconst (pc := 62) (v := 4) dJ6_numberOfLeadingZeros_0f7a4_62 (by decide) ?_
      refine pg_icmp_lt (pc := 63) (tgt := 73) dJ6_numberOfLeadingZeros_0f7a4_63 (by decide) (fun c2 => ?_) (fun c2 => ?_)
      · skip
        refine pg_iload_n (pc := 73) (i := 1) (j := 1) (x := (v1 + (-4))) dJ6_numberOfLeadingZeros_0f7a4_73 rfl rfl ?_
        refine pg_iload_n (pc := 74) (i := 0) (j := 0) (x := (v0.toUInt32 >>> ((4 : Int32).toUInt32 &&& Int32.toUInt32 31)).toInt32) dJ6_numberOfLeadingZeros_0f7a4_74 rfl rfl ?_
        refine pg_iconst (pc := 75) (v := 1) dJ6_numberOfLeadingZeros_0f7a4_75 (by decide) ?_
        refine pg_iushr (pc := 76) dJ6_numberOfLeadingZeros_0f7a4_76 rfl ?_
        refine pg_isub (pc := 77) dJ6_numberOfLeadingZeros_0f7a4_77 ?_
        exact pg_iret (pc := 78) rfl dJ6_numberOfLeadingZeros_0f7a4_78 (k2 c0 c1 c2)
      · skip
        refine pg_iinc (pc := 66) (i := 1) (j := 1) (x := (v1 + (-4))) (v := (v1 + (-4)) + (-2)) (ls' := [(1, .int ((v1 + (-4)) + (-2))), (0, .int ((v0.toUInt32 >>> ((4 : Int32).toUInt32 &&& Int32.toUInt32 31)).toInt32))]) dJ6_numberOfLeadingZeros_0f7a4_66 rfl rfl (by decide) rfl ?_
        refine pg_iload_n (pc := 69) (i := 0) (j := 1) (x := (v0.toUInt32 >>> ((4 : Int32).toUInt32 &&& Int32.toUInt32 31)).toInt32) dJ6_numberOfLeadingZeros_0f7a4_69 rfl rfl ?_
        refine pg_iconst (pc := 70) (v := 2) dJ6_numberOfLeadingZeros_0f7a4_70 (by decide) ?_
        refine pg_iushr (pc := 71) dJ6_numberOfLeadingZeros_0f7a4_71 rfl ?_
        refine pg_istore_n (pc := 72) (i := 0) (ls' := [(0, .int ((((v0.toUInt32 >>> ((4 : Int32).toUInt32 &&& Int32.toUInt32 31)).toInt32).toUInt32 >>> ((2 : Int32).toUInt32 &&& Int32.toUInt32 31)).toInt32)), (1, .int ((v1 + (-4)) + (-2)))]) dJ6_numberOfLeadingZeros_0f7a4_72 rfl (by decide) rfl ?_
        refine pg_iload_n (pc := 73) (i := 1) (j := 1) (x := ((v1 + (-4)) + (-2))) dJ6_numberOfLeadingZeros_0f7a4_73 rfl rfl ?_
        refine pg_iload_n (pc := 74) (i := 0) (j := 0) (x := (((v0.toUInt32 >>> ((4 : Int32).toUInt32 &&& Int32.toUInt32 31)).toInt32).toUInt32 >>> ((2 : Int32).toUInt32 &&& Int32.toUInt32 31)).toInt32) dJ6_numberOfLeadingZeros_0f7a4_74 rfl rfl ?_
        refine pg_iconst (pc := 75) (v := 1) dJ6_numberOfLeadingZeros_0f7a4_75 (by decide) ?_
        refine pg_iushr (pc := 76) dJ6_numberOfLeadingZeros_0f7a4_76 rfl ?_
        refine pg_isub (pc := 77) dJ6_numberOfLeadingZeros_0f7a4_77 ?_
        exact pg_iret (pc := 78) rfl dJ6_numberOfLeadingZeros_0f7a4_78 (k3 c0 c1 c2)
  · skip
    refine pg_iinc (pc := 40) (i := 1) (j := 1) (x := v1) (v := v1 + (-8)) (ls' := [(1, .int (v1 + (-8))), (0, .int v0)]) dJ6_numberOfLeadingZeros_0f7a4_40 rfl rfl (by decide) rfl ?_
    refine pg_iload_n (pc := 43) (i := 0) (j := 1) (x := v0) dJ6_numberOfLeadingZeros_0f7a4_43 rfl rfl ?_
    refine pg_bipush (pc := 44) (v := 8) dJ6_numberOfLeadingZeros_0f7a4_44 (by decide) ?_
    refine pg_iushr (pc := 46) dJ6_numberOfLeadingZeros_0f7a4_46 rfl ?_
    refine pg_istore_n (pc := 47) (i := 0) (ls' := [(0, .int ((v0.toUInt32 >>> ((8 : Int32).toUInt32 &&& Int32.toUInt32 31)).toInt32)), (1, .int (v1 + (-8)))]) dJ6_numberOfLeadingZeros_0f7a4_47 rfl (by decide) rfl ?_
    refine pg_iload_n (pc := 48) (i := 0) (j := 0) (x := (v0.toUInt32 >>> ((8 : Int32).toUInt32 &&& Int32.toUInt32 31)).toInt32) dJ6_numberOfLeadingZeros_0f7a4_48 rfl rfl ?_
    refine pg_bipush (pc := 49) (v := 16) dJ6_numberOfLeadingZeros_0f7a4_49 (by decide) ?_
    refine pg_icmp_lt (pc := 51) (tgt := 61) dJ6_numberOfLeadingZeros_0f7a4_51 (by decide) (fun c1 => ?_) (fun c1 => ?_)
    · skip
      refine pg_iload_n (pc := 61) (i := 0) (j := 0) (x := (v0.toUInt32 >>> ((8 : Int32).toUInt32 &&& Int32.toUInt32 31)).toInt32) dJ6_numberOfLeadingZeros_0f7a4_61 rfl rfl ?_
      refine pg_iconst (pc := 62) (v := 4) dJ6_numberOfLeadingZeros_0f7a4_62 (by decide) ?_
      refine pg_icmp_lt (pc := 63) (tgt := 73) dJ6_numberOfLeadingZeros_0f7a4_63 (by decide) (fun c2 => ?_) (fun c2 => ?_)
      · skip
        refine pg_iload_n (pc := 73) (i := 1) (j := 1) (x := (v1 + (-8))) dJ6_numberOfLeadingZeros_0f7a4_73 rfl rfl ?_
        refine pg_iload_n (pc := 74) (i := 0) (j := 0) (x := (v0.toUInt32 >>> ((8 : Int32).toUInt32 &&& Int32.toUInt32 31)).toInt32) dJ6_numberOfLeadingZeros_0f7a4_74 rfl rfl ?_
        refine pg_iconst (pc := 75) (v := 1) dJ6_numberOfLeadingZeros_0f7a4_75 (by decide) ?_
        refine pg_iushr (pc := 76) dJ6_numberOfLeadingZeros_0f7a4_76 rfl ?_
        refine pg_isub (pc := 77) dJ6_numberOfLeadingZeros_0f7a4_77 ?_
        exact pg_iret (pc := 78) rfl dJ6_numberOfLeadingZeros_0f7a4_78 (k4 c0 c1 c2)
      · skip
        refine pg_iinc (pc := 66) (i := 1) (j := 1) (x := (v1 + (-8))) (v := (v1 + (-8)) + (-2)) (ls' := [(1, .int ((v1 + (-8)) + (-2))), (0, .int ((v0.toUInt32 >>> ((8 : Int32).toUInt32 &&& Int32.toUInt32 31)).toInt32))]) dJ6_numberOfLeadingZeros_0f7a4_66 rfl rfl (by decide) rfl ?_
        refine pg_iload_n (pc := 69) (i := 0) (j := 1) (x := (v0.toUInt32 >>> ((8 : Int32).toUInt32 &&& Int32.toUInt32 31)).toInt32) dJ6_numberOfLeadingZeros_0f7a4_69 rfl rfl ?_
        refine pg_iconst (pc := 70) (v := 2) dJ6_numberOfLeadingZeros_0f7a4_70 (by decide) ?_
        refine pg_iushr (pc := 71) dJ6_numberOfLeadingZeros_0f7a4_71 rfl ?_
        refine pg_istore_n (pc := 72) (i := 0) (ls' := [(0, .int ((((v0.toUInt32 >>> ((8 : Int32).toUInt32 &&& Int32.toUInt32 31)).toInt32).toUInt32 >>> ((2 : Int32).toUInt32 &&& Int32.toUInt32 31)).toInt32)), (1, .int ((v1 + (-8)) + (-2)))]) dJ6_numberOfLeadingZeros_0f7a4_72 rfl (by decide) rfl ?_
        refine pg_iload_n (pc := 73) (i := 1) (j := 1) (x := ((v1 + (-8)) + (-2))) dJ6_numberOfLeadingZeros_0f7a4_73 rfl rfl ?_
        refine pg_iload_n (pc := 74) (i := 0) (j := 0) (x := (((v0.toUInt32 >>> ((8 : Int32).toUInt32 &&& Int32.toUInt32 31)).toInt32).toUInt32 >>> ((2 : Int32).toUInt32 &&& Int32.toUInt32 31)).toInt32) dJ6_numberOfLeadingZeros_0f7a4_74 rfl rfl ?_
        refine pg_iconst (pc := 75) (v := 1) dJ6_numberOfLeadingZeros_0f7a4_75 (by decide) ?_
        refine pg_iushr (pc := 76) dJ6_numberOfLeadingZeros_0f7a4_76 rfl ?_
        refine pg_isub (pc := 77) dJ6_numberOfLeadingZeros_0f7a4_77 ?_
        exact pg_iret (pc := 78) rfl dJ6_numberOfLeadingZeros_0f7a4_78 (k5 c0 c1 c2)
    · skip
      refine pg_iinc (pc := 54) (i := 1) (j := 1) (x := (v1 + (-8))) (v := (v1 + (-8)) + (-4)) (ls' := [(1, .int ((v1 + (-8)) + (-4))), (0, .int ((v0.toUInt32 >>> ((8 : Int32).toUInt32 &&& Int32.toUInt32 31)).toInt32))]) dJ6_numberOfLeadingZeros_0f7a4_54 rfl rfl (by decide) rfl ?_
      refine pg_iload_n (pc := 57) (i := 0) (j := 1) (x := (v0.toUInt32 >>> ((8 : Int32).toUInt32 &&& Int32.toUInt32 31)).toInt32) dJ6_numberOfLeadingZeros_0f7a4_57 rfl rfl ?_
      refine pg_iconst (pc := 58) (v := 4) dJ6_numberOfLeadingZeros_0f7a4_58 (by decide) ?_
      refine pg_iushr (pc := 59) dJ6_numberOfLeadingZeros_0f7a4_59 rfl ?_
      refine pg_istore_n (pc := 60) (i := 0) (ls' := [(0, .int ((((v0.toUInt32 >>> ((8 : Int32).toUInt32 &&& Int32.toUInt32 31)).toInt32).toUInt32 >>> ((4 : Int32).toUInt32 &&& Int32.toUInt32 31)).toInt32)), (1, .int ((v1 + (-8)) + (-4)))]) dJ6_numberOfLeadingZeros_0f7a4_60 rfl (by decide) rfl ?_
      refine pg_iload_n (pc := 61) (i := 0) (j := 0) (x := (((v0.toUInt32 >>> ((8 : Int32).toUInt32 &&& Int32.toUInt32 31)).toInt32).toUInt32 >>> ((4 : Int32).toUInt32 &&& Int32.toUInt32 31)).toInt32) dJ6_numberOfLeadingZeros_0f7a4_61 rfl rfl ?_
      refine pg_iconst (pc := 62) (v := 4) dJ6_numberOfLeadingZeros_0f7a4_62 (by decide) ?_
      refine pg_icmp_lt (pc := 63) (tgt := 73) dJ6_numberOfLeadingZeros_0f7a4_63 (by decide) (fun c2 => ?_) (fun c2 => ?_)
      · skip
        refine pg_iload_n (pc := 73) (i := 1) (j := 1) (x := ((v1 + (-8)) + (-4))) dJ6_numberOfLeadingZeros_0f7a4_73 rfl rfl ?_
        refine pg_iload_n (pc := 74) (i := 0) (j := 0) (x := (((v0.toUInt32 >>> ((8 : Int32).toUInt32 &&& Int32.toUInt32 31)).toInt32).toUInt32 >>> ((4 : Int32).toUInt32 &&& Int32.toUInt32 31)).toInt32) dJ6_numberOfLeadingZeros_0f7a4_74 rfl rfl ?_
        refine pg_iconst (pc := 75) (v := 1) dJ6_numberOfLeadingZeros_0f7a4_75 (by decide) ?_
        refine pg_iushr (pc := 76) dJ6_numberOfLeadingZeros_0f7a4_76 rfl ?_
        refine pg_isub (pc := 77) dJ6_numberOfLeadingZeros_0f7a4_77 ?_
        exact pg_iret (pc := 78) rfl dJ6_numberOfLeadingZeros_0f7a4_78 (k6 c0 c1 c2)
      · skip
        refine pg_iinc (pc := 66) (i := 1) (j := 1) (x := ((v1 + (-8)) + (-4))) (v := ((v1 + (-8)) + (-4)) + (-2)) (ls' := [(1, .int (((v1 + (-8)) + (-4)) + (-2))), (0, .int ((((v0.toUInt32 >>> ((8 : Int32).toUInt32 &&& Int32.toUInt32 31)).toInt32).toUInt32 >>> ((4 : Int32).toUInt32 &&& Int32.toUInt32 31)).toInt32))]) dJ6_numberOfLeadingZeros_0f7a4_66 rfl rfl (by decide) rfl ?_
        refine pg_iload_n (pc := 69) (i := 0) (j := 1) (x := (((v0.toUInt32 >>> ((8 : Int32).toUInt32 &&& Int32.toUInt32 31)).toInt32).toUInt32 >>> ((4 : Int32).toUInt32 &&& Int32.toUInt32 31)).toInt32) dJ6_numberOfLeadingZeros_0f7a4_69 rfl rfl ?_
        refine pg_iconst (pc := 70) (v := 2) dJ6_numberOfLeadingZeros_0f7a4_70 (by decide) ?_
        refine pg_iushr (pc := 71) dJ6_numberOfLeadingZeros_0f7a4_71 rfl ?_
        refine pg_istore_n (pc := 72) (i := 0) (ls' := [(0, .int ((((((v0.toUInt32 >>> ((8 : Int32).toUInt32 &&& Int32.toUInt32 31)).toInt32).toUInt32 >>> ((4 : Int32).toUInt32 &&& Int32.toUInt32 31)).toInt32).toUInt32 >>> ((2 : Int32).toUInt32 &&& Int32.toUInt32 31)).toInt32)), (1, .int (((v1 + (-8)) + (-4)) + (-2)))]) dJ6_numberOfLeadingZeros_0f7a4_72 rfl (by decide) rfl ?_
        refine pg_iload_n (pc := 73) (i := 1) (j := 1) (x := (((v1 + (-8)) + (-4)) + (-2))) dJ6_numberOfLeadingZeros_0f7a4_73 rfl rfl ?_
        refine pg_iload_n (pc := 74) (i := 0) (j := 0) (x := (((((v0.toUInt32 >>> ((8 : Int32).toUInt32 &&& Int32.toUInt32 31)).toInt32).toUInt32 >>> ((4 : Int32).toUInt32 &&& Int32.toUInt32 31)).toInt32).toUInt32 >>> ((2 : Int32).toUInt32 &&& Int32.toUInt32 31)).toInt32) dJ6_numberOfLeadingZeros_0f7a4_74 rfl rfl ?_
        refine pg_iconst (pc := 75) (v := 1) dJ6_numberOfLeadingZeros_0f7a4_75 (by decide) ?_
        refine pg_iushr (pc := 76) dJ6_numberOfLeadingZeros_0f7a4_76 rfl ?_
        refine pg_isub (pc := 77) dJ6_numberOfLeadingZeros_0f7a4_77 ?_
        exact pg_iret (pc := 78) rfl dJ6_numberOfLeadingZeros_0f7a4_78 (k7 c0 c1 c2)
theorem oJ6_numberOfLeadingZeros_0f7a4 {d : Nat} {v0 : Int32} (h : pg_At S Λ YJ6_numberOfLeadingZeros_0f7a4 d 0 [(0, .int v0)] [] M P) : pg_Ev S Λ YJ6_numberOfLeadingZeros_0f7a4 d [.int v0] M P := pg_Ev.of (by decide) (by first | decide | exact Nat.le_of_ble_eq_true rfl) h
theorem sJ7_fill_d0a16_0 {v0 : Nat} {v1 : Int64} {n_v0 : Nat} 
    (h0 : Λ v0 = some (.inr (.long, n_v0, some none)))
    (k0 : pg_At S Λ YJ7_fill_d0a16 d 6 [(0, .ref v0), (1, .long v1), (3, .int 0), (4, .int (Int32.ofNat n_v0))] [] M P) :
    pg_At S Λ YJ7_fill_d0a16 d 0 [(0, .ref v0), (1, .long v1)] [] M P := by
  refine pg_iconst (pc := 0) (v := 0) dJ7_fill_d0a16_0 (by decide) ?_
  refine pg_istore_n (pc := 1) (i := 3) (ls' := [(3, .int 0), (0, .ref v0), (1, .long v1)]) dJ7_fill_d0a16_1 rfl (by decide) rfl ?_
  refine pg_aload_n (pc := 2) (i := 0) (j := 1) (x := v0) dJ7_fill_d0a16_2 rfl rfl ?_
  refine pg_alen (pc := 3) h0 1 rfl dJ7_fill_d0a16_3 ?_
  refine pg_istore (pc := 4) (i := 4) (ls' := [(4, .int (Int32.ofNat n_v0)), (3, .int 0), (0, .ref v0), (1, .long v1)]) dJ7_fill_d0a16_4 (by decide) rfl ?_
  refine pg_drop (ks := [2, 3, 1, 0]) (ls' := [(0, .ref v0), (1, .long v1), (3, .int 0), (4, .int (Int32.ofNat n_v0))]) rfl ?_
  exact k0
theorem sJ7_fill_d0a16_6 {v0 : Nat} {v1 : Int64} {v3 : Int32} {v4 : Int32} {n_v0 : Nat} 
    (h0 : Λ v0 = some (.inr (.long, n_v0, some none)))
    (k0 : (v4 ≤ v3) → P none M)
    (b0 : (¬ v4 ≤ v3) → vp_in v3 n_v0)
    (k1 : (¬ v4 ≤ v3) → pg_At S Λ YJ7_fill_d0a16 d 6 [(0, .ref v0), (1, .long v1), (3, .int (v3 + 1)), (4, .int v4)] [] (pg_sj M v0 v3.toNatClampNeg v1) P) :
    pg_At S Λ YJ7_fill_d0a16 d 6 [(0, .ref v0), (1, .long v1), (3, .int v3), (4, .int v4)] [] M P := by
  refine pg_iload_n (pc := 6) (i := 3) (j := 2) (x := v3) dJ7_fill_d0a16_6 rfl rfl ?_
  refine pg_iload (pc := 7) (i := 4) (j := 3) (x := v4) dJ7_fill_d0a16_7 rfl ?_
  refine pg_icmp_ge (pc := 9) (tgt := 22) dJ7_fill_d0a16_9 (by decide) (fun c0 => ?_) (fun c0 => ?_)
  · skip
    exact pg_vret (pc := 22) rfl dJ7_fill_d0a16_22 (k0 c0)
  · skip
    refine pg_aload_n (pc := 12) (i := 0) (j := 0) (x := v0) dJ7_fill_d0a16_12 rfl rfl ?_
    refine pg_iload_n (pc := 13) (i := 3) (j := 2) (x := v3) dJ7_fill_d0a16_13 rfl rfl ?_
    refine pg_lload_n (pc := 14) (i := 1) (j := 1) (x := v1) dJ7_fill_d0a16_14 rfl rfl ?_
    refine pg_last (pc := 15) h0 (b0 c0) dJ7_fill_d0a16_15 ?_
    refine pg_iinc (pc := 16) (i := 3) (j := 2) (x := v3) (v := v3 + 1) (ls' := [(3, .int (v3 + 1)), (0, .ref v0), (1, .long v1), (4, .int v4)]) dJ7_fill_d0a16_16 rfl rfl (by decide) rfl ?_
    refine pg_goto (pc := 19) (tgt := 6) dJ7_fill_d0a16_19 (by decide) ?_
    refine pg_drop (ks := [1, 2, 0, 3]) (ls' := [(0, .ref v0), (1, .long v1), (3, .int (v3 + 1)), (4, .int v4)]) rfl ?_
    exact k1 c0
theorem oJ7_fill_d0a16 {d : Nat} {v0 : Nat} {v1 : Int64} (h : pg_At S Λ YJ7_fill_d0a16 d 0 [(0, .ref v0), (1, .long v1)] [] M P) : pg_Ev S Λ YJ7_fill_d0a16 d [.ref v0, .long v1] M P := pg_Ev.of (by decide) (by first | decide | exact Nat.le_of_ble_eq_true rfl) h
theorem sJ7_fill_53178_0 {v0 : Nat} {v1 : Int32} {n_v0 : Nat} 
    (h0 : Λ v0 = some (.inr (.int, n_v0, none)))
    (k0 : pg_At S Λ YJ7_fill_53178 d 5 [(0, .ref v0), (1, .int v1), (2, .int 0), (3, .int (Int32.ofNat n_v0))] [] M P) :
    pg_At S Λ YJ7_fill_53178 d 0 [(0, .ref v0), (1, .int v1)] [] M P := by
  refine pg_iconst (pc := 0) (v := 0) dJ7_fill_53178_0 (by decide) ?_
  refine pg_istore_n (pc := 1) (i := 2) (ls' := [(2, .int 0), (0, .ref v0), (1, .int v1)]) dJ7_fill_53178_1 rfl (by decide) rfl ?_
  refine pg_aload_n (pc := 2) (i := 0) (j := 1) (x := v0) dJ7_fill_53178_2 rfl rfl ?_
  refine pg_alen (pc := 3) h0 0 rfl dJ7_fill_53178_3 ?_
  refine pg_istore_n (pc := 4) (i := 3) (ls' := [(3, .int (Int32.ofNat n_v0)), (2, .int 0), (0, .ref v0), (1, .int v1)]) dJ7_fill_53178_4 rfl (by decide) rfl ?_
  refine pg_drop (ks := [2, 3, 1, 0]) (ls' := [(0, .ref v0), (1, .int v1), (2, .int 0), (3, .int (Int32.ofNat n_v0))]) rfl ?_
  exact k0
theorem sJ7_fill_53178_5 {v0 : Nat} {v1 : Int32} {v2 : Int32} {v3 : Int32} {n_v0 : Nat} 
    (h0 : Λ v0 = some (.inr (.int, n_v0, none)))
    (k0 : (v3 ≤ v2) → P none M)
    (b0 : (¬ v3 ≤ v2) → vp_in v2 n_v0)
    (k1 : (¬ v3 ≤ v2) → pg_At S Λ YJ7_fill_53178 d 5 [(0, .ref v0), (1, .int v1), (2, .int (v2 + 1)), (3, .int v3)] [] (pg_si M v0 v2.toNatClampNeg v1) P) :
    pg_At S Λ YJ7_fill_53178 d 5 [(0, .ref v0), (1, .int v1), (2, .int v2), (3, .int v3)] [] M P := by
  refine pg_iload_n (pc := 5) (i := 2) (j := 2) (x := v2) dJ7_fill_53178_5 rfl rfl ?_
  refine pg_iload_n (pc := 6) (i := 3) (j := 3) (x := v3) dJ7_fill_53178_6 rfl rfl ?_
  refine pg_icmp_ge (pc := 7) (tgt := 20) dJ7_fill_53178_7 (by decide) (fun c0 => ?_) (fun c0 => ?_)
  · skip
    exact pg_vret (pc := 20) rfl dJ7_fill_53178_20 (k0 c0)
  · skip
    refine pg_aload_n (pc := 10) (i := 0) (j := 0) (x := v0) dJ7_fill_53178_10 rfl rfl ?_
    refine pg_iload_n (pc := 11) (i := 2) (j := 2) (x := v2) dJ7_fill_53178_11 rfl rfl ?_
    refine pg_iload_n (pc := 12) (i := 1) (j := 1) (x := v1) dJ7_fill_53178_12 rfl rfl ?_
    refine pg_iast (pc := 13) h0 (b0 c0) dJ7_fill_53178_13 ?_
    refine pg_iinc (pc := 14) (i := 2) (j := 2) (x := v2) (v := v2 + 1) (ls' := [(2, .int (v2 + 1)), (0, .ref v0), (1, .int v1), (3, .int v3)]) dJ7_fill_53178_14 rfl rfl (by decide) rfl ?_
    refine pg_goto (pc := 17) (tgt := 5) dJ7_fill_53178_17 (by decide) ?_
    refine pg_drop (ks := [1, 2, 0, 3]) (ls' := [(0, .ref v0), (1, .int v1), (2, .int (v2 + 1)), (3, .int v3)]) rfl ?_
    exact k1 c0
theorem oJ7_fill_53178 {d : Nat} {v0 : Nat} {v1 : Int32} (h : pg_At S Λ YJ7_fill_53178 d 0 [(0, .ref v0), (1, .int v1)] [] M P) : pg_Ev S Λ YJ7_fill_53178 d [.ref v0, .int v1] M P := pg_Ev.of (by decide) (by first | decide | exact Nat.le_of_ble_eq_true rfl) h

end PGS

def pg_max (x y : Int32) : Int32 := if x < y then y else x
def pg_min (x y : Int32) : Int32 := if y < x then y else x
def pg_fm (x y : Int32) : Int32 := if 0 ≤ (x ^^^ y) then x - x / y * y else if x - x / y * y = 0 then x - x / y * y else x - x / y * y + y
def pg_bc (v0 : Int32) : Int32 := ((((((((v0 - (((v0.toUInt32 >>> ((1 : Int32).toUInt32 &&& Int32.toUInt32 31)).toInt32) &&& 1431655765)) &&& 858993459) + ((((v0 - (((v0.toUInt32 >>> ((1 : Int32).toUInt32 &&& Int32.toUInt32 31)).toInt32) &&& 1431655765)).toUInt32 >>> ((2 : Int32).toUInt32 &&& Int32.toUInt32 31)).toInt32) &&& 858993459)) + (((((v0 - (((v0.toUInt32 >>> ((1 : Int32).toUInt32 &&& Int32.toUInt32 31)).toInt32) &&& 1431655765)) &&& 858993459) + ((((v0 - (((v0.toUInt32 >>> ((1 : Int32).toUInt32 &&& Int32.toUInt32 31)).toInt32) &&& 1431655765)).toUInt32 >>> ((2 : Int32).toUInt32 &&& Int32.toUInt32 31)).toInt32) &&& 858993459)).toUInt32 >>> ((4 : Int32).toUInt32 &&& Int32.toUInt32 31)).toInt32)) &&& 252645135) + (((((((v0 - (((v0.toUInt32 >>> ((1 : Int32).toUInt32 &&& Int32.toUInt32 31)).toInt32) &&& 1431655765)) &&& 858993459) + ((((v0 - (((v0.toUInt32 >>> ((1 : Int32).toUInt32 &&& Int32.toUInt32 31)).toInt32) &&& 1431655765)).toUInt32 >>> ((2 : Int32).toUInt32 &&& Int32.toUInt32 31)).toInt32) &&& 858993459)) + (((((v0 - (((v0.toUInt32 >>> ((1 : Int32).toUInt32 &&& Int32.toUInt32 31)).toInt32) &&& 1431655765)) &&& 858993459) + ((((v0 - (((v0.toUInt32 >>> ((1 : Int32).toUInt32 &&& Int32.toUInt32 31)).toInt32) &&& 1431655765)).toUInt32 >>> ((2 : Int32).toUInt32 &&& Int32.toUInt32 31)).toInt32) &&& 858993459)).toUInt32 >>> ((4 : Int32).toUInt32 &&& Int32.toUInt32 31)).toInt32)) &&& 252645135).toUInt32 >>> ((8 : Int32).toUInt32 &&& Int32.toUInt32 31)).toInt32)) + ((((((((v0 - (((v0.toUInt32 >>> ((1 : Int32).toUInt32 &&& Int32.toUInt32 31)).toInt32) &&& 1431655765)) &&& 858993459) + ((((v0 - (((v0.toUInt32 >>> ((1 : Int32).toUInt32 &&& Int32.toUInt32 31)).toInt32) &&& 1431655765)).toUInt32 >>> ((2 : Int32).toUInt32 &&& Int32.toUInt32 31)).toInt32) &&& 858993459)) + (((((v0 - (((v0.toUInt32 >>> ((1 : Int32).toUInt32 &&& Int32.toUInt32 31)).toInt32) &&& 1431655765)) &&& 858993459) + ((((v0 - (((v0.toUInt32 >>> ((1 : Int32).toUInt32 &&& Int32.toUInt32 31)).toInt32) &&& 1431655765)).toUInt32 >>> ((2 : Int32).toUInt32 &&& Int32.toUInt32 31)).toInt32) &&& 858993459)).toUInt32 >>> ((4 : Int32).toUInt32 &&& Int32.toUInt32 31)).toInt32)) &&& 252645135) + (((((((v0 - (((v0.toUInt32 >>> ((1 : Int32).toUInt32 &&& Int32.toUInt32 31)).toInt32) &&& 1431655765)) &&& 858993459) + ((((v0 - (((v0.toUInt32 >>> ((1 : Int32).toUInt32 &&& Int32.toUInt32 31)).toInt32) &&& 1431655765)).toUInt32 >>> ((2 : Int32).toUInt32 &&& Int32.toUInt32 31)).toInt32) &&& 858993459)) + (((((v0 - (((v0.toUInt32 >>> ((1 : Int32).toUInt32 &&& Int32.toUInt32 31)).toInt32) &&& 1431655765)) &&& 858993459) + ((((v0 - (((v0.toUInt32 >>> ((1 : Int32).toUInt32 &&& Int32.toUInt32 31)).toInt32) &&& 1431655765)).toUInt32 >>> ((2 : Int32).toUInt32 &&& Int32.toUInt32 31)).toInt32) &&& 858993459)).toUInt32 >>> ((4 : Int32).toUInt32 &&& Int32.toUInt32 31)).toInt32)) &&& 252645135).toUInt32 >>> ((8 : Int32).toUInt32 &&& Int32.toUInt32 31)).toInt32)).toUInt32 >>> ((16 : Int32).toUInt32 &&& Int32.toUInt32 31)).toInt32)) &&& 63)
def pg_us (x k : Int32) : Int32 := (x.toUInt32 >>> (k.toUInt32 &&& Int32.toUInt32 31)).toInt32
def pg_nlz2 (v0 v1 : Int32) : Int32 := if v0 < 256 then (if v0 < 16 then (if v0 < 4 then v1 - pg_us v0 1 else (v1 + (-2)) - pg_us (pg_us v0 2) 1) else (if pg_us v0 4 < 4 then (v1 + (-4)) - pg_us (pg_us v0 4) 1 else ((v1 + (-4)) + (-2)) - pg_us (pg_us (pg_us v0 4) 2) 1)) else (if pg_us v0 8 < 16 then (if pg_us v0 8 < 4 then (v1 + (-8)) - pg_us (pg_us v0 8) 1 else ((v1 + (-8)) + (-2)) - pg_us (pg_us (pg_us v0 8) 2) 1) else (if pg_us (pg_us v0 8) 4 < 4 then ((v1 + (-8)) + (-4)) - pg_us (pg_us (pg_us v0 8) 4) 1 else (((v1 + (-8)) + (-4)) + (-2)) - pg_us (pg_us (pg_us (pg_us v0 8) 4) 2) 1))
def pg_nlz (x : Int32) : Int32 := if 0 < x then (if x < 65536 then pg_nlz2 x 31 else pg_nlz2 (pg_us x 16) (31 + (-16))) else if x = 0 then 32 else 0
section PGJ
variable {S : pg_S} {Λ : pg_L} {Y : pg_Y} {d pc index : Nat} {ls : List (Nat × Value)} {st : List Value} {M : pg_M} {P : Option Value → pg_M → Prop}
theorem pg_evmax {x y : Int32} : pg_Ev S Λ YJ9_max_7cf53 d [.int x, .int y] M (fun r M' => r = some (.int (pg_max x y)) ∧ M' = M) :=
  oJ9_max_7cf53 (sJ9_max_7cf53_0 (fun h => ⟨by simp [pg_max, h], rfl⟩) (fun h => ⟨by simp [pg_max, h], rfl⟩))
theorem pg_evmin {x y : Int32} : pg_Ev S Λ YJ9_min_7cf53 d [.int x, .int y] M (fun r M' => r = some (.int (pg_min x y)) ∧ M' = M) :=
  oJ9_min_7cf53 (sJ9_min_7cf53_0 (fun h => ⟨by simp [pg_min, h], rfl⟩) (fun h => ⟨by simp [pg_min, h], rfl⟩))
theorem pg_evfm {x y : Int32} (h0 : ¬ y = 0) : pg_Ev S Λ YJ9_floorMod_7cf53 d [.int x, .int y] M (fun r M' => r = some (.int (pg_fm x y)) ∧ M' = M) :=
  oJ9_floorMod_7cf53 (sJ9_floorMod_7cf53_0 h0 (fun h => ⟨by simp [pg_fm, h], rfl⟩) (fun h h1 => ⟨by simp [pg_fm, h, h1], rfl⟩) (fun h h1 => ⟨by simp [pg_fm, h, h1], rfl⟩))
theorem pg_evbc {x : Int32} : pg_Ev S Λ YJ6_bitCount_0f7a4 d [.int x] M (fun r M' => r = some (.int (pg_bc x)) ∧ M' = M) := oJ6_bitCount_0f7a4 (sJ6_bitCount_0f7a4_0 ⟨rfl, rfl⟩)
theorem pg_evlow {x : Int32} : pg_Ev S Λ YJ6_lowestOneBit_0f7a4 d [.int x] M (fun r M' => r = some (.int (x &&& (-x))) ∧ M' = M) := oJ6_lowestOneBit_0f7a4 (sJ6_lowestOneBit_0f7a4_0 ⟨rfl, rfl⟩)
theorem pg_atnlz {x y : Int32} : pg_At S Λ YJ6_numberOfLeadingZeros_0f7a4 d 33 [(0, .int x), (1, .int y)] [] M (fun r M' => r = some (.int (pg_nlz2 x y)) ∧ M' = M) := by
  have hus : ∀ a b : Int32, pg_us a b = (a.toUInt32 >>> (b.toUInt32 &&& Int32.toUInt32 31)).toInt32 := fun _ _ => rfl
  refine sJ6_numberOfLeadingZeros_0f7a4_33 (fun h h1 h2 => ⟨?_, rfl⟩) (fun h h1 h2 => ⟨?_, rfl⟩) (fun h h1 h2 => ⟨?_, rfl⟩) (fun h h1 h2 => ⟨?_, rfl⟩) (fun h h1 h2 => ⟨?_, rfl⟩) (fun h h1 h2 => ⟨?_, rfl⟩) (fun h h1 h2 => ⟨?_, rfl⟩) (fun h h1 h2 => ⟨?_, rfl⟩) <;> simp only [← hus] at h1 h2 ⊢ <;> simp [pg_nlz2, h, h1, h2]
theorem pg_evnlz {x : Int32} : pg_Ev S Λ YJ6_numberOfLeadingZeros_0f7a4 d [.int x] M (fun r M' => r = some (.int (pg_nlz x)) ∧ M' = M) := by
  refine oJ6_numberOfLeadingZeros_0f7a4 (sJ6_numberOfLeadingZeros_0f7a4_0 (fun h h1 => ?_) (fun h h1 => ?_) (fun h h1 => ⟨by simp [pg_nlz, h, h1], rfl⟩) (fun h h1 => ⟨by simp [pg_nlz, h1], rfl⟩))
  · exact pg_At.imp (fun r M' q => ⟨by rw [q.1]; simp [pg_nlz, h, h1], q.2⟩) pg_atnlz
  · exact pg_At.imp (fun r M' q => ⟨by rw [q.1]; simp [pg_nlz, h, h1]; rfl, q.2⟩) pg_atnlz
theorem pg_evfill {a n : Nat} {v : Int32} (hΛ : Λ a = some (.inr (.int, n, none))) (hn : n < 2 ^ 31) : pg_Ev S Λ YJ7_fill_53178 d [.ref a, .int v] M (fun r M' => r = none ∧ M' = pg_sa M a (fun j => if j < n then v else M.1 a j)) := by
  have loop : ∀ (k i : Nat) (M1 : pg_M), i + k = n → M1 = pg_sa M a (fun j => if j < i then v else M.1 a j) → pg_At S Λ YJ7_fill_53178 d 5 [(0, .ref a), (1, .int v), (2, .int (nI i)), (3, .int (Int32.ofNat n))] [] M1 (fun r M' => r = none ∧ M' = pg_sa M a (fun j => if j < n then v else M.1 a j)) := by
    intro k
    induction k with
    | zero =>
      intro i M1 hi hM
      refine sJ7_fill_53178_5 hΛ (fun _ => ⟨rfl, by rw [hM, show i = n by omega]⟩) (fun h => absurd (nI_le (a := n) (b := i) (by omega) (by omega)) h) (fun h => absurd (nI_le (a := n) (b := i) (by omega) (by omega)) h)
    | succ k ih =>
      intro i M1 hi hM
      refine sJ7_fill_53178_5 hΛ (fun h => absurd h (nI_ge (by omega) hn)) (fun _ => vp_in_nI (by omega) hn) (fun _ => ?_)
      rw [nI_1, nI_clamp (by omega)]
      refine ih (i + 1) _ (by omega) ?_
      subst hM
      simp only [pg_si, pg_sa]
      refine congrArg (fun f => (f, M.2.1, M.2.2)) ?_
      funext b
      by_cases hb : b = a
      · subst hb
        simp only [if_true]
        funext j
        simp only [upd]
        by_cases hj : j = i
        · simp [hj]
        · simp [hj, show j < i + 1 ↔ j < i by omega]
      · simp [hb]
  refine oJ7_fill_53178 (sJ7_fill_53178_0 hΛ ?_)
  refine loop n 0 M (by omega) ?_
  simp [pg_sa]
  refine Prod.ext ?_ rfl
  funext b
  by_cases hb : b = a
  · simp [hb]
  · simp [hb]
theorem pg_evfilll {a n : Nat} {v : Int64} (hΛ : Λ a = some (.inr (.long, n, some none))) (hn : n < 2 ^ 31) : pg_Ev S Λ YJ7_fill_d0a16 d [.ref a, .long v] M (fun r M' => r = none ∧ M' = pg_sl2 M a (fun j => if j < n then v else M.2.1 a j)) := by
  have loop : ∀ (k i : Nat) (M1 : pg_M), i + k = n → M1 = pg_sl2 M a (fun j => if j < i then v else M.2.1 a j) → pg_At S Λ YJ7_fill_d0a16 d 6 [(0, .ref a), (1, .long v), (3, .int (nI i)), (4, .int (Int32.ofNat n))] [] M1 (fun r M' => r = none ∧ M' = pg_sl2 M a (fun j => if j < n then v else M.2.1 a j)) := by
    intro k
    induction k with
    | zero =>
      intro i M1 hi hM
      refine sJ7_fill_d0a16_6 hΛ (fun _ => ⟨rfl, by rw [hM, show i = n by omega]⟩) (fun h => absurd (nI_le (a := n) (b := i) (by omega) (by omega)) h) (fun h => absurd (nI_le (a := n) (b := i) (by omega) (by omega)) h)
    | succ k ih =>
      intro i M1 hi hM
      refine sJ7_fill_d0a16_6 hΛ (fun h => absurd h (nI_ge (by omega) hn)) (fun _ => vp_in_nI (by omega) hn) (fun _ => ?_)
      rw [nI_1, nI_clamp (by omega)]
      refine ih (i + 1) _ (by omega) ?_
      subst hM
      simp only [pg_sj, pg_sl2]
      refine congrArg (fun f => (M.1, f, M.2.2)) ?_
      funext b
      by_cases hb : b = a
      · subst hb
        simp only [if_true]
        funext j
        simp only [vp_updL]
        by_cases hj : j = i
        · simp [hj]
        · simp [hj, show j < i + 1 ↔ j < i by omega]
      · simp [hb]
  refine oJ7_fill_d0a16 (sJ7_fill_d0a16_0 hΛ ?_)
  refine loop n 0 M (by omega) ?_
  simp [pg_sl2]
  refine Prod.ext rfl (Prod.ext ?_ rfl)
  funext b
  by_cases hb : b = a
  · simp [hb]
  · simp [hb]

theorem pg_jmax {x y : Int32} (hlink : Cond.methodLink Y.1.cls index yJ9_max_7cf53 ∈ pg_gd) (hst : (st.map fun v => v.category).sum ≤ 8) (hdg : decode Y.2.1 pc = .ok (.invokestatic index, 3)) (kk : pg_At S Λ Y (d + 1) (pc + 3) ls (.int (pg_max x y) :: st) M P) : pg_At S Λ Y (d + 1) pc ls (.int y :: .int x :: st) M P :=
  pg_callS (As := [.int x, .int y]) okJ9_max_7cf53 hlink rfl (Nat.le_refl _) hst (pg_evmax) hdg (fun r M' w => by obtain ⟨rfl, rfl⟩ := w; exact kk)
theorem pg_jmin {x y : Int32} (hlink : Cond.methodLink Y.1.cls index yJ9_min_7cf53 ∈ pg_gd) (hst : (st.map fun v => v.category).sum ≤ 8) (hdg : decode Y.2.1 pc = .ok (.invokestatic index, 3)) (kk : pg_At S Λ Y (d + 1) (pc + 3) ls (.int (pg_min x y) :: st) M P) : pg_At S Λ Y (d + 1) pc ls (.int y :: .int x :: st) M P :=
  pg_callS (As := [.int x, .int y]) okJ9_min_7cf53 hlink rfl (Nat.le_refl _) hst (pg_evmin) hdg (fun r M' w => by obtain ⟨rfl, rfl⟩ := w; exact kk)
theorem pg_jbc {x : Int32} (hlink : Cond.methodLink Y.1.cls index yJ6_bitCount_0f7a4 ∈ pg_gd) (hst : (st.map fun v => v.category).sum ≤ 8) (hdg : decode Y.2.1 pc = .ok (.invokestatic index, 3)) (kk : pg_At S Λ Y (d + 1) (pc + 3) ls (.int (pg_bc x) :: st) M P) : pg_At S Λ Y (d + 1) pc ls (.int x :: st) M P :=
  pg_callS (As := [.int x]) okJ6_bitCount_0f7a4 hlink rfl (Nat.le_refl _) hst (pg_evbc) hdg (fun r M' w => by obtain ⟨rfl, rfl⟩ := w; exact kk)
theorem pg_jlow {x : Int32} (hlink : Cond.methodLink Y.1.cls index yJ6_lowestOneBit_0f7a4 ∈ pg_gd) (hst : (st.map fun v => v.category).sum ≤ 8) (hdg : decode Y.2.1 pc = .ok (.invokestatic index, 3)) (kk : pg_At S Λ Y (d + 1) (pc + 3) ls (.int (x &&& (-x)) :: st) M P) : pg_At S Λ Y (d + 1) pc ls (.int x :: st) M P :=
  pg_callS (As := [.int x]) okJ6_lowestOneBit_0f7a4 hlink rfl (Nat.le_refl _) hst (pg_evlow) hdg (fun r M' w => by obtain ⟨rfl, rfl⟩ := w; exact kk)
theorem pg_jnlz {x : Int32} (hlink : Cond.methodLink Y.1.cls index yJ6_numberOfLeadingZeros_0f7a4 ∈ pg_gd) (hst : (st.map fun v => v.category).sum ≤ 8) (hdg : decode Y.2.1 pc = .ok (.invokestatic index, 3)) (kk : pg_At S Λ Y (d + 1) (pc + 3) ls (.int (pg_nlz x) :: st) M P) : pg_At S Λ Y (d + 1) pc ls (.int x :: st) M P :=
  pg_callS (As := [.int x]) okJ6_numberOfLeadingZeros_0f7a4 hlink rfl (Nat.le_refl _) hst (pg_evnlz) hdg (fun r M' w => by obtain ⟨rfl, rfl⟩ := w; exact kk)
theorem pg_jfm {x y : Int32} (hlink : Cond.methodLink Y.1.cls index yJ9_floorMod_7cf53 ∈ pg_gd) (h0 : ¬ y = 0) (hst : (st.map fun v => v.category).sum ≤ 8) (hdg : decode Y.2.1 pc = .ok (.invokestatic index, 3)) (kk : pg_At S Λ Y (d + 1) (pc + 3) ls (.int (pg_fm x y) :: st) M P) : pg_At S Λ Y (d + 1) pc ls (.int y :: .int x :: st) M P :=
  pg_callS (As := [.int x, .int y]) okJ9_floorMod_7cf53 hlink rfl (Nat.le_refl _) hst (pg_evfm h0) hdg (fun r M' w => by obtain ⟨rfl, rfl⟩ := w; exact kk)
theorem pg_jfill {a n : Nat} {v : Int32} (hlink : Cond.methodLink Y.1.cls index yJ7_fill_53178 ∈ pg_gd) (hst : (st.map fun v => v.category).sum ≤ 8) (hΛ : Λ a = some (.inr (.int, n, none))) (hn : n < 2 ^ 31) (hdg : decode Y.2.1 pc = .ok (.invokestatic index, 3)) (kk : pg_At S Λ Y (d + 1) (pc + 3) ls st (pg_sa M a (fun j => if j < n then v else M.1 a j)) P) : pg_At S Λ Y (d + 1) pc ls (.int v :: .ref a :: st) M P :=
  pg_callS (As := [.ref a, .int v]) okJ7_fill_53178 hlink rfl (Nat.le_refl _) hst (pg_evfill hΛ hn) hdg (fun r M' w => by obtain ⟨rfl, rfl⟩ := w; exact kk)
theorem pg_jfilll {a n : Nat} {v : Int64} (hlink : Cond.methodLink Y.1.cls index yJ7_fill_d0a16 ∈ pg_gd) (hst : (st.map fun v => v.category).sum ≤ 8) (hΛ : Λ a = some (.inr (.long, n, some none))) (hn : n < 2 ^ 31) (hdg : decode Y.2.1 pc = .ok (.invokestatic index, 3)) (kk : pg_At S Λ Y (d + 1) (pc + 3) ls st (pg_sl2 M a (fun j => if j < n then v else M.2.1 a j)) P) : pg_At S Λ Y (d + 1) pc ls (.long v :: .ref a :: st) M P :=
  pg_callS (As := [.ref a, .long v]) okJ7_fill_d0a16 hlink rfl (Nat.le_refl _) hst (pg_evfilll hΛ hn) hdg (fun r M' w => by obtain ⟨rfl, rfl⟩ := w; exact kk)
theorem pg_named (kk : ∀ M', M' = M → pg_At S Λ Y d pc ls st M' P) : pg_At S Λ Y d pc ls st M P := kk M rfl
theorem pg_copyi {a0 a n0 n1 : Nat} {sp dp n : Int32} (hlink : Cond.methodLink Y.1.cls index arraycopyName ∈ pg_gd) (hst : (st.map fun v => v.category).sum ≤ 8) (hΛ0 : Λ a0 = some (.inr (.int, n0, none))) (hΛ : Λ a = some (.inr (.int, n1, none))) (h1 : ¬ sp < 0) (h2 : ¬ dp < 0) (h3 : ¬ n < 0) (h4 : sp.toNatClampNeg + n.toNatClampNeg ≤ n0) (h5 : dp.toNatClampNeg + n.toNatClampNeg ≤ n1) (hdg : decode Y.2.1 pc = .ok (.invokestatic index, 3))
    (kk : pg_At S Λ Y (d + 1) (pc + 3) ls st (pg_sa M a (va_cpy (M.1 a0) (M.1 a) sp.toNatClampNeg dp.toNatClampNeg n.toNatClampNeg)) P) : pg_At S Λ Y (d + 1) pc ls (.int n :: .int dp :: .ref a :: .int sp :: .ref a0 :: st) M P := by
  intro p e s m args below meth c H locs R lj C9 hR hM hL hl
  obtain ⟨q0, hq0⟩ := pg_ws_at (S := S) (M := M) (hM.1 a0 _ hΛ0).1 hΛ0
  obtain ⟨q1, hq1⟩ := pg_ws_at (S := S) (M := M) (hM.1 a _ hΛ).1 hΛ
  refine va_copyi (a := pg_ad S a) (a0 := pg_ad S a0) (ty := .int) C9.1 C9.2.1 (C9.2.2.1.trans hl.1.symm) C9.2.2.2.1 (C9.2.2.2.2.1 _ hlink) (C9.2.2.2.2.1 _ pg_wnat) (C9.2.2.2.2.1 _ pg_wsta) (C9.2.2.2.2.1 _ pg_wini) C9.2.2.2.2.2.1.1 (pg_ws_P hM) pg_ws_D (pg_VS hL) q0 q1 0 0 hq0 hq1 rfl rfl rfl h1 h2 h3 h4 h5 (fun _ _ => rfl) (by omega) ?_ hdg (fun H1 locs1 hP1 hD1 hS1 => ?_)
  · rw [List.map_map]
    have : (st.map ((fun v => v.category) ∘ pg_up S)).sum ≤ 8 := by simpa [Function.comp_def, pg_up_cat] using hst
    have h9 : nativeFrameWords "java/lang/System" "arraycopy" 5 = 7 := by decide
    omega
  · exact kk p e s m args below meth c H1 locs1 R lj C9 hR (pg_R.set hM hΛ hq1 (by simp [pg_ce, pg_sa]) (pg_sa_off S M a _) hP1 hS1) hS1.2.2 hl
theorem pg_copyl {a0 a n0 n1 : Nat} {sp dp n : Int32} (hlink : Cond.methodLink Y.1.cls index arraycopyName ∈ pg_gd) (hst : (st.map fun v => v.category).sum ≤ 8) (hΛ0 : Λ a0 = some (.inr (.long, n0, some none))) (hΛ : Λ a = some (.inr (.long, n1, some none))) (h1 : ¬ sp < 0) (h2 : ¬ dp < 0) (h3 : ¬ n < 0) (h4 : sp.toNatClampNeg + n.toNatClampNeg ≤ n0) (h5 : dp.toNatClampNeg + n.toNatClampNeg ≤ n1) (hdg : decode Y.2.1 pc = .ok (.invokestatic index, 3))
    (kk : pg_At S Λ Y (d + 1) (pc + 3) ls st (pg_sl2 M a (va_cpy (M.2.1 a0) (M.2.1 a) sp.toNatClampNeg dp.toNatClampNeg n.toNatClampNeg)) P) : pg_At S Λ Y (d + 1) pc ls (.int n :: .int dp :: .ref a :: .int sp :: .ref a0 :: st) M P := by
  intro p e s m args below meth c H locs R lj C9 hR hM hL hl
  obtain ⟨q0, hq0⟩ := pg_ws_at (S := S) (M := M) (hM.1 a0 _ hΛ0).1 hΛ0
  obtain ⟨q1, hq1⟩ := pg_ws_at (S := S) (M := M) (hM.1 a _ hΛ).1 hΛ
  refine va_copyl (a := pg_ad S a) (a0 := pg_ad S a0) (ty := .long) C9.1 C9.2.1 (C9.2.2.1.trans hl.1.symm) C9.2.2.2.1 (C9.2.2.2.2.1 _ hlink) (C9.2.2.2.2.1 _ pg_wnat) (C9.2.2.2.2.1 _ pg_wsta) (C9.2.2.2.2.1 _ pg_wini) C9.2.2.2.2.2.1.1 (pg_ws_P hM) pg_ws_D (pg_VS hL) q0 q1 1 1 hq0 hq1 rfl rfl rfl h1 h2 h3 h4 h5 (fun _ _ => rfl) (by omega) ?_ hdg (fun H1 locs1 hP1 hD1 hS1 => ?_)
  · rw [List.map_map]
    have : (st.map ((fun v => v.category) ∘ pg_up S)).sum ≤ 8 := by simpa [Function.comp_def, pg_up_cat] using hst
    have h9 : nativeFrameWords "java/lang/System" "arraycopy" 5 = 7 := by decide
    omega
  · exact kk p e s m args below meth c H1 locs1 R lj C9 hR (pg_R.set hM hΛ hq1 (by simp [pg_ce, pg_sl2]) (pg_sl2_off S M a _) hP1 hS1) hS1.2.2 hl
end PGJ
