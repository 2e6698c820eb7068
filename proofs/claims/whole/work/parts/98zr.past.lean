theorem pnokX9 : pn_okI YX9_init := ⟨pg_g (pg_t1 76 rfl) rfl, pg_g (pg_t1 3 rfl) rfl, pg_g (pg_t1 77 rfl) rfl, by decide, by decide, by decide, rfl, rfl⟩
theorem pnokX2 : pn_okI YX2_init := ⟨pg_g (pg_t1 118 rfl) rfl, pg_g (pg_t1 4 rfl) rfl, pg_g (pg_t1 119 rfl) rfl, by decide, by decide, by decide, rfl, rfl⟩
theorem pnokX1 : pn_okI YX1_init := ⟨pg_g (pg_t2 135 rfl) rfl, pg_g (pg_t1 12 rfl) rfl, pg_g (pg_t2 136 rfl) rfl, by decide, by decide, by decide, rfl, rfl⟩
theorem pnokX8 : pn_okI YX8_init := ⟨pg_g (pg_t2 24 rfl) rfl, pg_g (pg_t1 10 rfl) rfl, pg_g (pg_t2 25 rfl) rfl, by decide, by decide, by decide, rfl, rfl⟩
theorem pnokX7 : pn_okI YX7_init := ⟨pg_g (pg_t1 37 rfl) rfl, pg_g (pg_t1 2 rfl) rfl, pg_g (pg_t1 38 rfl) rfl, by decide, by decide, by decide, rfl, rfl⟩
theorem pnokX3 : pn_okI YX3_init := ⟨pg_g (pg_t1 177 rfl) rfl, pg_g (pg_t1 6 rfl) rfl, pg_g (pg_t1 178 rfl) rfl, by decide, by decide, by decide, rfl, rfl⟩
theorem pnokX0 : pn_okI YX0_init := ⟨pg_g (pg_t1 217 rfl) rfl, pg_g (pg_t1 7 rfl) rfl, pg_g (pg_t1 218 rfl) rfl, by decide, by decide, by decide, rfl, rfl⟩
theorem pnokX4 : pn_okI YX4_init := ⟨pg_g (pg_t1 230 rfl) rfl, pg_g (pg_t1 8 rfl) rfl, pg_g (pg_t1 231 rfl) rfl, by decide, by decide, by decide, rfl, rfl⟩
theorem pnokX5 : pn_okI YX5_init := ⟨pg_g (pg_t2 18 rfl) rfl, pg_g (pg_t1 9 rfl) rfl, pg_g (pg_t2 19 rfl) rfl, by decide, by decide, by decide, rfl, rfl⟩
theorem pnokX6 : pn_okI YX6_init := ⟨pg_g (pg_t1 144 rfl) rfl, pg_g (pg_t1 5 rfl) rfl, pg_g (pg_t1 145 rfl) rfl, by decide, by decide, by decide, rfl, rfl⟩
theorem pnokX10 : pn_okI YX10_init := ⟨pg_g (pg_t1 29 rfl) rfl, pg_g (pg_t1 1 rfl) rfl, pg_g (pg_t1 30 rfl) rfl, by decide, by decide, by decide, rfl, rfl⟩
theorem pnokX11 : pn_okI YX11_init := ⟨pg_g (pg_t6 58 rfl) rfl, pg_g (pg_t1 13 rfl) rfl, pg_g (pg_t6 59 rfl) rfl, by decide, by decide, by decide, rfl, rfl⟩
theorem pn_swap {E : pn_E} {x y : Nat} {o o' : va_E} (h : x ≠ y) : ∀ b, pn_up (pn_up E x o) y o' b = pn_up (pn_up E y o') x o b := by
  intro b
  unfold pn_up
  by_cases h1 : b = x
  · subst h1
    simp [h]
  · simp [h1]
theorem arrV_to {cI : ClassId} {N : Nat} {f g : Nat → Value} (h : ∀ j, j < N → f j = g j) : arrV cI N f = arrV cI N g := by
  unfold arrV
  congr 1
  apply congrArg
  funext j
  exact h j.val j.isLt
section PNZ
variable {S : pg_S} {Λ : pg_L} {Y : pg_Y} {d pc : Nat} {ls : List (Nat × Value)} {M : pg_M} {E : pn_E} {a mc ms nF : Nat} {PF : pg_M → Prop}
/-- the end, where what is held as it stands is as the layout says in all that counts -/
theorem pn_vretW (hr : Y.2.2.2 = none) (hdg : decode Y.2.1 pc = .ok (.return_, 1)) (hP : PF M) (hE : ∀ (b : Nat) (o : va_E), E b = some o → ∀ d2 : pg_D, Λ b = some d2 → ∀ H : Heap, va_at S.2.2.1 pg_cls (pg_ad S b, o) H → va_at S.2.2.1 pg_cls (pg_ad S b, pg_ce S M b d2) H) : pn_At S Λ Y d pc ls [] M (E, a, nF, mc, ms, mc, ms, nF, PF) :=
  fun p e s m args below meth c H locs R lj C9 hR hM hL hl => W.vret C9.1 C9.2.1 (C9.2.2.2.2.2.2.1.trans hr) (fun t ht _ => ⟨rfl, M, hP, fun b d2 h1 h2 h3 => by
    rw [ht]
    cases hE2 : E b with
    | none =>
      refine hM.1 b _ ?_
      show pn_g S Λ M E a nF b = _
      unfold pn_g
      rw [if_pos ⟨h1, h2⟩, hE2, h3]
      rfl
    | some o =>
      refine hE b o hE2 d2 h3 H (hM.1 b o ?_)
      show pn_g S Λ M E a nF b = _
      unfold pn_g
      rw [if_pos ⟨h1, h2⟩, hE2], fun q hq => by rw [ht]; exact hM.2.1 q hq, by rw [ht]; exact hM.2.2.1⟩) hL hdg C9.2.2.2.2.2.2.2
end PNZ
def pn_fl (S : pg_S) (b k i : Nat) : Nat → Option Nat := fun j => if j < i then some (pg_ad S (b + k * j)) else none
theorem pn_fl_up (S : pg_S) (b k i : Nat) : va_up (pn_fl S b k i) i (some (pg_ad S (b + k * i))) = pn_fl S b k (i + 1) := by
  funext j
  unfold va_up pn_fl
  by_cases h : j = i
  · subst h
    simp
  · rw [if_neg h]
    by_cases h2 : j < i
    · rw [if_pos h2, if_pos (by omega)]
    · rw [if_neg h2, if_neg (by omega)]
def pn_e6 (S : pg_S) (i j k : Nat) : pn_E := pn_up (pn_up (pn_up (pn_up (fun _ => none) 22 (pn_oa S "PegLaws$Felt" 4 (pn_fl S 114 11 k))) 21 (pn_oa S "PegLaws$State" 4 (pn_fl S 109 11 j))) 20 (pn_oa S "PegLaws$State" 17 (pn_fl S 24 5 i))) 19 (.inr (6, [.ref (pg_ad S 20), .ref (pg_ad S 21), .ref (pg_ad S 22), .ref (pg_ad S 23), .int 0, .int 0]))
theorem pn_e6_n {S : pg_S} {i j k b : Nat} (h : 23 ≤ b) : pn_e6 S i j k b = none := by
  unfold pn_e6 pn_up
  rw [if_neg (by omega), if_neg (by omega), if_neg (by omega), if_neg (by omega)]
theorem pn_e6_19 {S : pg_S} {i j k : Nat} : pn_e6 S i j k 19 = some (.inr (6, [.ref (pg_ad S 20), .ref (pg_ad S 21), .ref (pg_ad S 22), .ref (pg_ad S 23), .int 0, .int 0])) := rfl
theorem pn_e6_20 {S : pg_S} {i j k : Nat} : pn_e6 S i j k 20 = some (pn_oa S "PegLaws$State" 17 (pn_fl S 24 5 i)) := rfl
theorem pn_e6_21 {S : pg_S} {i j k : Nat} : pn_e6 S i j k 21 = some (pn_oa S "PegLaws$State" 4 (pn_fl S 109 11 j)) := rfl
theorem pn_e6_22 {S : pg_S} {i j k : Nat} : pn_e6 S i j k 22 = some (pn_oa S "PegLaws$Felt" 4 (pn_fl S 114 11 k)) := rfl
theorem pn_e6_u20 {S : pg_S} {i j k : Nat} : ∀ b, pn_up (pn_e6 S i j k) 20 (pn_oa S "PegLaws$State" 17 (va_up (pn_fl S 24 5 i) i (some (pg_ad S (24 + 5 * i))))) b = pn_e6 S (i + 1) j k b := by
  intro b
  rw [pn_fl_up]
  unfold pn_e6 pn_up
  by_cases h : b = 20
  · subst h; rfl
  · simp [h]
theorem pn_e6_u21 {S : pg_S} {i j k : Nat} : ∀ b, pn_up (pn_e6 S i j k) 21 (pn_oa S "PegLaws$State" 4 (va_up (pn_fl S 109 11 j) j (some (pg_ad S (109 + 11 * j))))) b = pn_e6 S i (j + 1) k b := by
  intro b
  rw [pn_fl_up]
  unfold pn_e6 pn_up
  by_cases h : b = 21
  · subst h; rfl
  · simp [h]
theorem pn_e6_u22 {S : pg_S} {i j k : Nat} : ∀ b, pn_up (pn_e6 S i j k) 22 (pn_oa S "PegLaws$Felt" 4 (va_up (pn_fl S 114 11 k) k (some (pg_ad S (114 + 11 * k))))) b = pn_e6 S i j (k + 1) b := by
  intro b
  rw [pn_fl_up]
  unfold pn_e6 pn_up
  by_cases h : b = 22
  · subst h; rfl
  · simp [h]
theorem pn_i1 : ∀ i : Nat, i < 17 → ¬ Int32.ofNat 17 ≤ Int32.ofNat i := by decide +kernel
theorem pn_i2 : ∀ i : Nat, i < 4 → ¬ Int32.ofNat 4 ≤ Int32.ofNat i := by decide +kernel
theorem pn_i3 : ∀ i : Nat, i < 17 → (Int32.ofNat i).toNatClampNeg = i := by decide +kernel
theorem pn_i4 : ∀ i : Nat, i < 17 → Int32.ofNat i + Int32.ofInt 1 = Int32.ofNat (i + 1) := by decide +kernel
theorem pn_i5 : ∀ i : Nat, i < 17 → vp_in (Int32.ofNat i) 17 := by unfold vp_in; decide +kernel
theorem pn_i6 : ∀ i : Nat, i < 4 → vp_in (Int32.ofNat i) 4 := by unfold vp_in; decide +kernel
theorem pn_f9 : ∀ j, j < 6 → defaultValue (tyX9 j) = vp_V [.null, .null, .null, .null, .int 0, .int 0] j := by decide +kernel
theorem pn_f2 : ∀ j, j < 6 → defaultValue (tyX2 j) = vp_V [.null, .null, .null, .null, .null, .int 0] j := by decide +kernel
section PNY
variable {S : pg_S} {Λ : pg_L} {d : Nat} {M : pg_M}
theorem pn6_b (hf : pg_isX6 Λ) (hm : ∀ j, j < 4 → pg_isX9 Λ (109 + 11 * j)) (hg : ∀ j, j < 4 → pg_isX2 Λ (114 + 11 * j)) (hz : ∀ b, 19 ≤ b → b < 153 → M.1 b = (fun _ => 0) ∧ M.2.1 b = fun _ => 0) : ∀ (k i : Nat), k + i = 4 → pn_At S Λ YX6_init (d + 1) 68 [(1, .int (Int32.ofNat i)), (0, .ref 19)] [] M (pn_e6 S 17 i i, 19, 109 + 11 * i, 89 + 11 * i, 573 + 84 * i, 133, 909, 153, fun M' => M' = M) := by
  intro k
  induction k with
  | zero =>
    intro i hi
    obtain rfl : i = 4 := by omega
    refine pn_iload_n (pc := 68) (i := 1) (j := 0) (x := Int32.ofNat 4) dX6_init_68 rfl rfl ?_
    refine pn_iconst (pc := 69) (v := 4) dX6_init_69 rfl ?_
    refine pn_icmp_ge (pc := 70) (tgt := 105) dX6_init_70 (by decide) (fun _ => ?_) (fun h => absurd (by decide) h)
    refine pn_vretW (pc := 105) rfl dX6_init_105 rfl (fun b o ho d2 h2 H hH => ?_)
    by_cases b19 : b = 19
    · subst b19
      cases Option.some.inj (pn_e6_19.symm.trans ho)
      cases Option.some.inj (hf.1.symm.trans h2)
      have z0 := hz 19 (by omega) (by omega)
      have e9 : pg_ce S M 19 (.inl (6, [.inr 20, .inr 21, .inr 22, .inr 23, .inl 0, .inl 0])) = .inr (6, [.ref (pg_ad S 20), .ref (pg_ad S 21), .ref (pg_ad S 22), .ref (pg_ad S 23), .int 0, .int 0]) := by simp [pg_ce, pg_fvs, pg_fv, pg_up, z0]
      rw [e9]
      exact hH
    by_cases b20 : b = 20
    · subst b20
      cases Option.some.inj (pn_e6_20.symm.trans ho)
      cases Option.some.inj (hf.2.1.symm.trans h2)
      have h9 : H[pg_ad S 20]? = some (arrV (S.2.2.2.1 (.object "PegLaws$State")) 17 (fun j => va_rf (pn_fl S 24 5 17 j))) := hH
      show H[pg_ad S 20]? = some (arrV (S.2.2.2.1 (.object "PegLaws$State")) 17 (fun j => va_rf (some (pg_ad S (24 + 5 * j)))))
      rw [h9]
      exact congrArg some (arrV_to (fun j hj => by simp [pn_fl, hj]))
    by_cases b21 : b = 21
    · subst b21
      cases Option.some.inj (pn_e6_21.symm.trans ho)
      cases Option.some.inj (hf.2.2.1.symm.trans h2)
      have h9 : H[pg_ad S 21]? = some (arrV (S.2.2.2.1 (.object "PegLaws$State")) 4 (fun j => va_rf (pn_fl S 109 11 4 j))) := hH
      show H[pg_ad S 21]? = some (arrV (S.2.2.2.1 (.object "PegLaws$State")) 4 (fun j => va_rf (some (pg_ad S (109 + 11 * j)))))
      rw [h9]
      exact congrArg some (arrV_to (fun j hj => by simp [pn_fl, hj]))
    by_cases b22 : b = 22
    · subst b22
      cases Option.some.inj (pn_e6_22.symm.trans ho)
      cases Option.some.inj (hf.2.2.2.1.symm.trans h2)
      have h9 : H[pg_ad S 22]? = some (arrV (S.2.2.2.1 (.object "PegLaws$Felt")) 4 (fun j => va_rf (pn_fl S 114 11 4 j))) := hH
      show H[pg_ad S 22]? = some (arrV (S.2.2.2.1 (.object "PegLaws$Felt")) 4 (fun j => va_rf (some (pg_ad S (114 + 11 * j)))))
      rw [h9]
      exact congrArg some (arrV_to (fun j hj => by simp [pn_fl, hj]))
    · exfalso
      unfold pn_e6 pn_up at ho
      simp [b19, b20, b21, b22] at ho
  | succ k ih =>
    intro i hi
    have hi4 : i < 4 := by omega
    refine pn_iload_n (pc := 68) (i := 1) (j := 0) (x := Int32.ofNat i) dX6_init_68 rfl rfl ?_
    refine pn_iconst (pc := 69) (v := 4) dX6_init_69 rfl ?_
    refine pn_icmp_ge (pc := 70) (tgt := 105) dX6_init_70 (by decide) (fun h => absurd h (pn_i2 i hi4)) (fun _ => ?_)
    refine pn_aload_n (pc := 73) (i := 0) (j := 1) (x := 19) dX6_init_73 rfl rfl ?_
    refine pn_getE (pc := 74) (k := 1) (N := 6) (T := TX6) (v := .ref 21) pn_e6_19 ⟨by omega, by omega⟩ rfl rfl pg_inX6 (by decide) (pg_g (pg_t1 154 rfl) rfl) dX6_init_74 ?_
    refine pn_iload_n (pc := 77) (i := 1) (j := 0) (x := Int32.ofNat i) dX6_init_77 rfl rfl ?_
    refine pn_new (pc := 78) (T := TX9) (N := 6) (ci := 9) (fs := [.null, .null, .null, .null, .int 0, .int 0]) tyX9 dX6_init_78 (pg_g (pg_t1 147 rfl) rfl) (pg_g (pg_t1 74 rfl) rfl) (pg_g (pg_t1 3 rfl) rfl) rfl pg_inX9 tyX9_ok pn_f9 (by omega) ⟨by omega, by omega⟩ ?_
    refine pn_dup (pc := 81) dX6_init_81 rfl ?_
    refine pn_initN (pc := 82) (host := "PegLaws") pnokX9 (pg_t1 151 rfl) (pnX9 (hm i hi4) (by omega) (fun b h1 h2 => hz b (by omega) (by omega))) dX6_init_82 (Nat.le_refl _) (by show 3 ≤ 8; omega) (pn_e6_n (by omega)) (by omega) ⟨by omega, by omega⟩ ⟨by omega, by omega⟩ (by omega) (by omega) (fun M' e9 b _ => by rw [e9]; exact ⟨rfl, rfl, rfl⟩) (fun M' e9 => ?_)
    rw [e9]
    refine pn_aast (pc := 85) (T := TX9) (N2 := 6) (ci := 9) (t0 := 4) pn_e6_21 ⟨by omega, by omega⟩ rfl rfl (pn_e6_n (by omega)) ⟨by omega, by omega⟩ (hm i hi4).1 (pn_i6 i hi4) dX6_init_85 ?_
    rw [pn_i3 i (by omega)]
    refine pn_norm pn_e6_u21 ?_
    refine pn_aload_n (pc := 86) (i := 0) (j := 1) (x := 19) dX6_init_86 rfl rfl ?_
    refine pn_getE (pc := 87) (k := 2) (N := 6) (T := TX6) (v := .ref 22) pn_e6_19 ⟨by omega, by omega⟩ rfl rfl pg_inX6 (by decide) (pg_g (pg_t1 155 rfl) rfl) dX6_init_87 ?_
    refine pn_iload_n (pc := 90) (i := 1) (j := 0) (x := Int32.ofNat i) dX6_init_90 rfl rfl ?_
    have e114 : 109 + 11 * i + 5 = 114 + 11 * i := by omega
    rw [e114]
    refine pn_new (pc := 91) (T := TX2) (N := 6) (ci := 2) (fs := [.null, .null, .null, .null, .null, .int 0]) tyX2 dX6_init_91 (pg_g (pg_t1 149 rfl) rfl) (pg_g (pg_t1 116 rfl) rfl) (pg_g (pg_t1 4 rfl) rfl) rfl pg_inX2 tyX2_ok pn_f2 (by omega) ⟨by omega, by omega⟩ ?_
    refine pn_dup (pc := 94) dX6_init_94 rfl ?_
    refine pn_initN (pc := 95) (host := "PegLaws") pnokX2 (pg_t1 152 rfl) (pnX2 (hg i hi4) (by omega) (fun b h1 h2 => hz b (by omega) (by omega))) dX6_init_95 (Nat.le_refl _) (by show 3 ≤ 8; omega) (pn_e6_n (by omega)) (by omega) ⟨by omega, by omega⟩ ⟨by omega, by omega⟩ (by omega) (by omega) (fun M' e9 b _ => by rw [e9]; exact ⟨rfl, rfl, rfl⟩) (fun M' e9 => ?_)
    rw [e9]
    refine pn_aast (pc := 98) (T := TX2) (N2 := 6) (ci := 2) (t0 := 5) pn_e6_22 ⟨by omega, by omega⟩ rfl rfl (pn_e6_n (by omega)) ⟨by omega, by omega⟩ (hg i hi4).1 (pn_i6 i hi4) dX6_init_98 ?_
    rw [pn_i3 i (by omega)]
    refine pn_norm pn_e6_u22 ?_
    refine pn_iinc (pc := 99) (i := 1) (j := 0) (x := Int32.ofNat i) (v := Int32.ofNat (i + 1)) dX6_init_99 rfl (pn_i4 i (by omega)) (by decide) rfl ?_
    refine pn_goto (pc := 102) (tgt := 68) dX6_init_102 (by decide) ?_
    have h9 := ih (i + 1) (by omega)
    rw [show 109 + 11 * (i + 1) = 114 + 11 * i + 6 by omega, show 89 + 11 * (i + 1) = 89 + 11 * i + 1 + 4 + 1 + 5 by omega, show 573 + 84 * (i + 1) = 573 + 84 * i + 6 + 26 + 6 + 46 by omega] at h9
    exact h9
theorem pn6_a (hf : pg_isX6 Λ) (hs : ∀ j, j < 17 → pg_isX9 Λ (24 + 5 * j)) (hm : ∀ j, j < 4 → pg_isX9 Λ (109 + 11 * j)) (hg : ∀ j, j < 4 → pg_isX2 Λ (114 + 11 * j)) (hz : ∀ b, 19 ≤ b → b < 153 → M.1 b = (fun _ => 0) ∧ M.2.1 b = fun _ => 0) : ∀ (k i : Nat), k + i = 17 → pn_At S Λ YX6_init (d + 1) 38 [(1, .int (Int32.ofNat i)), (0, .ref 19)] [] M (pn_e6 S i 0 0, 19, 24 + 5 * i, 4 + 5 * i, 29 + 32 * i, 133, 909, 153, fun M' => M' = M) := by
  intro k
  induction k with
  | zero =>
    intro i hi
    obtain rfl : i = 17 := by omega
    refine pn_iload_n (pc := 38) (i := 1) (j := 0) (x := Int32.ofNat 17) dX6_init_38 rfl rfl ?_
    refine pn_aload_n (pc := 39) (i := 0) (j := 1) (x := 19) dX6_init_39 rfl rfl ?_
    refine pn_getE (pc := 40) (k := 0) (N := 6) (T := TX6) (v := .ref 20) pn_e6_19 ⟨by omega, by omega⟩ rfl rfl pg_inX6 (by decide) (pg_g (pg_t1 153 rfl) rfl) dX6_init_40 ?_
    refine pn_alenE (pc := 43) (t0 := 4) (v := Int32.ofNat 17) pn_e6_20 ⟨by omega, by omega⟩ rfl rfl dX6_init_43 ?_
    refine pn_icmp_ge (pc := 44) (tgt := 66) dX6_init_44 (by decide) (fun _ => ?_) (fun h => absurd (by decide) h)
    refine pn_iconst (pc := 66) (v := 0) dX6_init_66 rfl ?_
    refine pn_istore_n (pc := 67) (i := 1) dX6_init_67 rfl (by decide) rfl ?_
    exact pn6_b hf hm hg hz 4 0 rfl
  | succ k ih =>
    intro i hi
    have hi17 : i < 17 := by omega
    refine pn_iload_n (pc := 38) (i := 1) (j := 0) (x := Int32.ofNat i) dX6_init_38 rfl rfl ?_
    refine pn_aload_n (pc := 39) (i := 0) (j := 1) (x := 19) dX6_init_39 rfl rfl ?_
    refine pn_getE (pc := 40) (k := 0) (N := 6) (T := TX6) (v := .ref 20) pn_e6_19 ⟨by omega, by omega⟩ rfl rfl pg_inX6 (by decide) (pg_g (pg_t1 153 rfl) rfl) dX6_init_40 ?_
    refine pn_alenE (pc := 43) (t0 := 4) (v := Int32.ofNat 17) pn_e6_20 ⟨by omega, by omega⟩ rfl rfl dX6_init_43 ?_
    refine pn_icmp_ge (pc := 44) (tgt := 66) dX6_init_44 (by decide) (fun h => absurd h (pn_i1 i hi17)) (fun _ => ?_)
    refine pn_aload_n (pc := 47) (i := 0) (j := 1) (x := 19) dX6_init_47 rfl rfl ?_
    refine pn_getE (pc := 48) (k := 0) (N := 6) (T := TX6) (v := .ref 20) pn_e6_19 ⟨by omega, by omega⟩ rfl rfl pg_inX6 (by decide) (pg_g (pg_t1 153 rfl) rfl) dX6_init_48 ?_
    refine pn_iload_n (pc := 51) (i := 1) (j := 0) (x := Int32.ofNat i) dX6_init_51 rfl rfl ?_
    refine pn_new (pc := 52) (T := TX9) (N := 6) (ci := 9) (fs := [.null, .null, .null, .null, .int 0, .int 0]) tyX9 dX6_init_52 (pg_g (pg_t1 147 rfl) rfl) (pg_g (pg_t1 74 rfl) rfl) (pg_g (pg_t1 3 rfl) rfl) rfl pg_inX9 tyX9_ok pn_f9 (by omega) ⟨by omega, by omega⟩ ?_
    refine pn_dup (pc := 55) dX6_init_55 rfl ?_
    refine pn_initN (pc := 56) (host := "PegLaws") pnokX9 (pg_t1 151 rfl) (pnX9 (hs i hi17) (by omega) (fun b h1 h2 => hz b (by omega) (by omega))) dX6_init_56 (Nat.le_refl _) (by show 3 ≤ 8; omega) (pn_e6_n (by omega)) (by omega) ⟨by omega, by omega⟩ ⟨by omega, by omega⟩ (by omega) (by omega) (fun M' e9 b _ => by rw [e9]; exact ⟨rfl, rfl, rfl⟩) (fun M' e9 => ?_)
    rw [e9]
    refine pn_aast (pc := 59) (T := TX9) (N2 := 6) (ci := 9) (t0 := 4) pn_e6_20 ⟨by omega, by omega⟩ rfl rfl (pn_e6_n (by omega)) ⟨by omega, by omega⟩ (hs i hi17).1 (pn_i5 i hi17) dX6_init_59 ?_
    rw [pn_i3 i hi17]
    refine pn_norm pn_e6_u20 ?_
    refine pn_iinc (pc := 60) (i := 1) (j := 0) (x := Int32.ofNat i) (v := Int32.ofNat (i + 1)) dX6_init_60 rfl (pn_i4 i hi17) (by decide) rfl ?_
    refine pn_goto (pc := 63) (tgt := 38) dX6_init_63 (by decide) ?_
    have h9 := ih (i + 1) (by omega)
    rw [show 24 + 5 * (i + 1) = 24 + 5 * i + 5 by omega, show 4 + 5 * (i + 1) = 4 + 5 * i + 1 + 4 by omega, show 29 + 32 * (i + 1) = 29 + 32 * i + 6 + 26 by omega] at h9
    exact h9
theorem pnX6 (hf : pg_isX6 Λ) (hs : ∀ j, j < 17 → pg_isX9 Λ (24 + 5 * j)) (hm : ∀ j, j < 4 → pg_isX9 Λ (109 + 11 * j)) (hg : ∀ j, j < 4 → pg_isX2 Λ (114 + 11 * j)) (hz : ∀ b, 19 ≤ b → b < 153 → M.1 b = (fun _ => 0) ∧ M.2.1 b = fun _ => 0) : pn_Ev S Λ YX6_init (d + 1) 19 (.inr (6, [.null, .null, .null, .null, .int 0, .int 0])) 133 909 153 (fun M' => M' = M) := by
  have z23 := hz 23 (by omega) (by omega)
  refine pn_Ev.of M (by decide) rfl rfl (by omega) (by decide) ?_
  refine pn_aload_n (pc := 0) (i := 0) (j := 0) (x := 19) dX6_init_0 rfl rfl ?_
  refine pn_obj (pc := 1) (pg_g (pg_t1 146 rfl) rfl) pn_oi1 pn_oi2 (by decide) dX6_init_1 ?_
  refine pn_aload_n (pc := 4) (i := 0) (j := 0) (x := 19) dX6_init_4 rfl rfl ?_
  refine pn_bipush (pc := 5) (v := 17) dX6_init_5 rfl ?_
  refine pn_anew (pc := 7) (N := 17) (t0 := 4) dX6_init_7 (pg_g (pg_t1 147 rfl) rfl) (fun _ h => h.1) (by decide) (by decide) (by decide) rfl (by omega) ⟨by decide, by decide⟩ ?_
  refine pn_norm (pn_swap (by decide)) ?_
  refine pn_putF (pc := 10) (k := 0) (N := 6) (T := TX6) (ty := .array (.object "PegLaws$State")) tyX6 rfl pg_inX6 tyX6_ok nmX6 (by decide) (Nat.le_of_ble_eq_true rfl) ⟨by omega, by omega⟩ (pg_g (pg_t1 153 rfl) rfl) rfl rfl rfl rfl rfl dX6_init_10 ?_
  refine pn_aload_n (pc := 13) (i := 0) (j := 0) (x := 19) dX6_init_13 rfl rfl ?_
  refine pn_iconst (pc := 14) (v := 4) dX6_init_14 rfl ?_
  refine pn_anew (pc := 15) (N := 4) (t0 := 4) dX6_init_15 (pg_g (pg_t1 147 rfl) rfl) (fun _ h => h.1) (by decide) (by decide) (by decide) rfl (by omega) ⟨by decide, by decide⟩ ?_
  refine pn_norm (pn_swap (by decide)) ?_
  refine pn_putF (pc := 18) (k := 1) (N := 6) (T := TX6) (ty := .array (.object "PegLaws$State")) tyX6 rfl pg_inX6 tyX6_ok nmX6 (by decide) (Nat.le_of_ble_eq_true rfl) ⟨by omega, by omega⟩ (pg_g (pg_t1 154 rfl) rfl) rfl rfl rfl rfl rfl dX6_init_18 ?_
  refine pn_aload_n (pc := 21) (i := 0) (j := 0) (x := 19) dX6_init_21 rfl rfl ?_
  refine pn_iconst (pc := 22) (v := 4) dX6_init_22 rfl ?_
  refine pn_anew (pc := 23) (N := 4) (t0 := 5) dX6_init_23 (pg_g (pg_t1 149 rfl) rfl) (fun _ h => h.2) (by decide) (by decide) (by decide) rfl (by omega) ⟨by decide, by decide⟩ ?_
  refine pn_norm (pn_swap (by decide)) ?_
  refine pn_putF (pc := 26) (k := 2) (N := 6) (T := TX6) (ty := .array (.object "PegLaws$Felt")) tyX6 rfl pg_inX6 tyX6_ok nmX6 (by decide) (Nat.le_of_ble_eq_true rfl) ⟨by omega, by omega⟩ (pg_g (pg_t1 155 rfl) rfl) rfl rfl rfl rfl rfl dX6_init_26 ?_
  refine pn_aload_n (pc := 29) (i := 0) (j := 0) (x := 19) dX6_init_29 rfl rfl ?_
  refine pn_iconst (pc := 30) (v := 4) dX6_init_30 rfl ?_
  refine pn_newa (pc := 31) (N := 4) (t0 := 2) (ty := .boolean) (x := .inl (fun _ => 0)) dX6_init_31 rfl pn_acboolean (by decide) (by decide) (by decide) rfl (fun _ _ q => q) hf.2.2.2.2 (by show pg_ce S M 23 _ = _; simp only [pg_ce, z23.1]) (fun _ => rfl) (by omega) ⟨by decide, by decide⟩ ?_
  refine pn_putF (pc := 33) (k := 3) (N := 6) (T := TX6) (ty := .array .boolean) tyX6 rfl pg_inX6 tyX6_ok nmX6 (by decide) (Nat.le_of_ble_eq_true rfl) ⟨by omega, by omega⟩ (pg_g (pg_t1 156 rfl) rfl) rfl rfl rfl rfl rfl dX6_init_33 ?_
  refine pn_iconst (pc := 36) (v := 0) dX6_init_36 rfl ?_
  refine pn_istore_n (pc := 37) (i := 1) dX6_init_37 rfl (by decide) rfl ?_
  refine pn_norm (E' := pn_e6 S 0 0 0) (fun b => ?_) (pn6_a hf hs hm hg hz 17 0 rfl)
  have hfl : ∀ x y : Nat, pn_fl S x y 0 = fun _ => none := fun x y => by funext j; simp [pn_fl]
  unfold pn_e6
  rw [hfl, hfl, hfl]
  unfold pn_up
  by_cases b19 : b = 19
  · subst b19; rfl
  by_cases b20 : b = 20
  · subst b20; rfl
  by_cases b21 : b = 21
  · subst b21; rfl
  by_cases b22 : b = 22
  · subst b22; rfl
  simp [b19, b20, b21, b22]
end PNY
