section PNW
variable {S : pg_S} {Λ : pg_L} {d : Nat} {M : pg_M}
def pn_wl : List Int64 := [6251602, 1177493, 1604747592, 43890888, 817571, 43580913, 46929487, 14209610, 6232399, 31067180, 8420923, 407118, 1014841, 1167099, 3540, 426554, 30596128, 36021333, 320390, 1186121, 19741, 1891, 573, 1177862, 660580, 975695]
def pn_wd (M : pg_M) : Nat → pg_M
  | 0 => M
  | k + 1 => pg_sj (pn_wd M k) 212 k (pn_wl.getD k 0)
theorem pn_wd_fr (M : pg_M) : ∀ k, pg_fr [212] M (pn_wd M k) := by
  intro k
  induction k with
  | zero => exact pg_fr.rfl'
  | succ k ih =>
    refine ih.trans ⟨fun b _ => rfl, fun b hb => ?_, rfl⟩
    show (if b = 212 then _ else (pn_wd M k).2.1 b) = _
    rw [if_neg (by simpa using hb)]
theorem pn_wd_1 (M : pg_M) : ∀ k, (pn_wd M k).1 = M.1 := by
  intro k
  induction k with
  | zero => rfl
  | succ k ih => exact ih
theorem pn_wd_at (M : pg_M) : ∀ k j, j < k → (pn_wd M k).2.1 212 j = pn_wl.getD j 0 := by
  intro k
  induction k with
  | zero => intro j hj; omega
  | succ k ih =>
    intro j hj
    show (if (212 : Nat) = 212 then vp_updL ((pn_wd M k).2.1 212) k (pn_wl.getD k 0) else (pn_wd M k).2.1 212) j = _
    rw [if_pos rfl]
    unfold vp_updL
    by_cases h : j = k
    · rw [if_pos h, h]
    · rw [if_neg h]; exact ih j (by omega)
theorem pn_cut_11 (h : pg_isX11 Λ) : pg_isX11 (pn_cut Λ 231) := by
  have e : ∀ b, b < 231 → pn_cut Λ 231 b = Λ b := fun b hb => by unfold pn_cut; rw [if_pos hb]
  unfold pg_isX11
  rw [e 207 (by omega), e 208 (by omega), e 209 (by omega), e 210 (by omega), e 211 (by omega), e 212 (by omega), e 213 (by omega), e 214 (by omega), e 215 (by omega), e 216 (by omega), e 217 (by omega), e 218 (by omega), e 219 (by omega), e 220 (by omega), e 221 (by omega), e 222 (by omega), e 223 (by omega), e 224 (by omega), e 225 (by omega), e 226 (by omega), e 227 (by omega), e 228 (by omega), e 229 (by omega), e 230 (by omega)]
  exact h
theorem rm_L.zero (h1 : ∀ k9, k9 < 100 → M.1 213 (0 + k9) = rm_al k9) : rm_L M rd_X0.1 rd_X0.2.1 := by
  have f9 : ∀ f9 k9, f9 = k9 → k9 < 100 → M.1 213 f9 = rm_al k9 := fun f9 k9 e9 hk => by have := h1 k9 hk; rw [Nat.zero_add] at this; rw [e9]; exact this
  refine ⟨f9 0 0 rfl (by omega), f9 1 1 rfl (by omega), f9 2 2 rfl (by omega), f9 3 3 rfl (by omega), f9 4 4 rfl (by omega), f9 5 5 rfl (by omega), fun c9 i9 hc => absurd hc (by show ¬ c9 < 0; omega), fun x9 y9 hx hy => ?_, fun p9 hp => absurd hp (by show ¬ p9 < 0; omega), fun j9 hj => ?_, Or.inl ⟨f9 6 6 rfl (by omega), rfl⟩, Or.inl ⟨f9 7 7 rfl (by omega), rfl⟩⟩
  · rw [f9 (32 + 6 * x9 + y9) (32 + 6 * x9 + y9) rfl (by omega)]
    unfold rm_al
    rw [if_neg (by omega), if_neg (by omega), if_neg (by omega), if_neg (by omega)]
    simp [rd_X0]; rfl
  · have hj : j9 < 1 := hj
    obtain rfl : j9 = 0 := by omega
    exact f9 76 76 rfl (by omega)
/-- what a new reference holds, and that it leaves the class as it was -/
def pn_new11 (M M' : pg_M) : Prop := rm_L M' rd_X0.1 rd_X0.2.1 ∧ rm_S M' 0 (sp_start rd_X0.1) ∧ M'.1 221 28 = 0 ∧ M'.1 218 0 = 0 ∧ (∀ m9, m9 < 4 → M'.1 222 m9 = 0) ∧ M'.1 207 = (fun _ => 0) ∧ M'.1 208 = (fun _ => 0) ∧ (∀ k, k < 26 → M'.2.1 212 k = pn_wl.getD k 0) ∧ pg_fr [207, 212, 213, 218, 221, 222] M M'
set_option maxHeartbeats 4000000 in
theorem pnX11 (h : pg_isX11 Λ) (hz : ∀ b, 207 ≤ b → b < 231 → M.1 b = (fun _ => 0) ∧ M.2.1 b = fun _ => 0) : pn_Ev2 S Λ YX11_init (d + 2) M 207 (.inr (11, [.int 0, .null, .int 0, .int 0, .null, .null, .null, .int 0, .int 0, .null, .null, .null, .null, .int 0, .null, .null, .int 0, .int 0, .int 0, .null, .null, .null, .null, .int 0, .null, .null, .null, .null, .int 0, .int 0, .null, .null, .null, .null, .int 0, .int 0, .null, .long 0])) 23 11341 231 (pn_new11 M) := by
  obtain ⟨q0, q1, q2, q3, q4, q5, q6, q7, q8, q9, q10, q11, q12, q13, q14, q15, q16, q17, q18, q19, q20, q21, q22, q23⟩ := id h
  have z0 := hz 207 (by omega) (by omega)
  have z1 := hz 208 (by omega) (by omega)
  have z2 := hz 209 (by omega) (by omega)
  have z3 := hz 210 (by omega) (by omega)
  have z4 := hz 211 (by omega) (by omega)
  have z5 := hz 212 (by omega) (by omega)
  have z6 := hz 213 (by omega) (by omega)
  have z7 := hz 214 (by omega) (by omega)
  have z8 := hz 215 (by omega) (by omega)
  have z9 := hz 216 (by omega) (by omega)
  have z10 := hz 217 (by omega) (by omega)
  have z11 := hz 218 (by omega) (by omega)
  have z12 := hz 219 (by omega) (by omega)
  have z13 := hz 220 (by omega) (by omega)
  have z14 := hz 221 (by omega) (by omega)
  have z15 := hz 222 (by omega) (by omega)
  have z16 := hz 223 (by omega) (by omega)
  have z17 := hz 224 (by omega) (by omega)
  have z18 := hz 225 (by omega) (by omega)
  have z19 := hz 226 (by omega) (by omega)
  have z20 := hz 227 (by omega) (by omega)
  have z21 := hz 228 (by omega) (by omega)
  have z22 := hz 229 (by omega) (by omega)
  have z23 := hz 230 (by omega) (by omega)
  refine pn_Ev2.of (by decide) rfl rfl (by omega) (by decide) ?_
  refine pn_aload_n (pc := 0) (i := 0) (j := 0) (x := 207) dX11_init_0 rfl rfl ?_
  refine pn_obj (pc := 1) (pg_g (pg_t6 60 rfl) rfl) pn_oi1 pn_oi2 (by decide) dX11_init_1 ?_
  refine pn_aload_n (pc := 4) (i := 0) (j := 0) (x := 207) dX11_init_4 rfl rfl ?_
  refine pn_sipush (pc := 5) (v := 1000) dX11_init_5 rfl ?_
  refine pn_newa (n := 208) (pc := 8) (N := 1000) (t0 := 0) (ty := .int) (x := .inl (fun _ => 0)) dX11_init_8 rfl pn_acint (by decide) (by decide) (by decide) rfl (fun _ _ q => q) q1 (by show pg_ce S M 208 _ = _; simp only [pg_ce, (z1).1]) (fun _ => rfl) (by omega) ⟨by decide, by decide⟩ ?_
  refine pn_putF (pc := 10) (k := 1) (N := 38) (T := TX11) (ty := .array .int) tyX11 rfl pg_inX11 tyX11_ok nmX11 (by decide) (by simp only [List.length_set]; decide) ⟨by omega, by omega⟩ (pg_g (pg_t6 100 rfl) rfl) rfl rfl rfl rfl rfl dX11_init_10 ?_
  refine pn_aload_n (pc := 13) (i := 0) (j := 0) (x := 207) dX11_init_13 rfl rfl ?_
  refine pn_sipush (pc := 14) (v := 1002) dX11_init_14 rfl ?_
  refine pn_newa (n := 209) (pc := 17) (N := 1002) (t0 := 0) (ty := .int) (x := .inl (fun _ => 0)) dX11_init_17 rfl pn_acint (by decide) (by decide) (by decide) rfl (fun _ _ q => q) q2 (by show pg_ce S M 209 _ = _; simp only [pg_ce, (z2).1]) (fun _ => rfl) (by omega) ⟨by decide, by decide⟩ ?_
  refine pn_putF (pc := 19) (k := 4) (N := 38) (T := TX11) (ty := .array .int) tyX11 rfl pg_inX11 tyX11_ok nmX11 (by decide) (by simp only [List.length_set]; decide) ⟨by omega, by omega⟩ (pg_g (pg_t6 103 rfl) rfl) rfl rfl rfl rfl rfl dX11_init_19 ?_
  refine pn_aload_n (pc := 22) (i := 0) (j := 0) (x := 207) dX11_init_22 rfl rfl ?_
  refine pn_sipush (pc := 23) (v := 1002) dX11_init_23 rfl ?_
  refine pn_newa (n := 210) (pc := 26) (N := 1002) (t0 := 0) (ty := .int) (x := .inl (fun _ => 0)) dX11_init_26 rfl pn_acint (by decide) (by decide) (by decide) rfl (fun _ _ q => q) q3 (by show pg_ce S M 210 _ = _; simp only [pg_ce, (z3).1]) (fun _ => rfl) (by omega) ⟨by decide, by decide⟩ ?_
  refine pn_putF (pc := 28) (k := 5) (N := 38) (T := TX11) (ty := .array .int) tyX11 rfl pg_inX11 tyX11_ok nmX11 (by decide) (by simp only [List.length_set]; decide) ⟨by omega, by omega⟩ (pg_g (pg_t6 104 rfl) rfl) rfl rfl rfl rfl rfl dX11_init_28 ?_
  refine pn_aload_n (pc := 31) (i := 0) (j := 0) (x := 207) dX11_init_31 rfl rfl ?_
  refine pn_sipush (pc := 32) (v := 1002) dX11_init_32 rfl ?_
  refine pn_newa (n := 211) (pc := 35) (N := 1002) (t0 := 1) (ty := .long) (x := .inr (.inl (fun _ => 0))) dX11_init_35 rfl pn_aclong (by decide) (by decide) (by decide) rfl (fun _ _ q => q) q4 (by show pg_ce S M 211 _ = _; simp only [pg_ce, (z4).2]) (fun _ => rfl) (by omega) ⟨by decide, by decide⟩ ?_
  refine pn_putF (pc := 37) (k := 6) (N := 38) (T := TX11) (ty := .array .long) tyX11 rfl pg_inX11 tyX11_ok nmX11 (by decide) (by simp only [List.length_set]; decide) ⟨by omega, by omega⟩ (pg_g (pg_t6 105 rfl) rfl) rfl rfl rfl rfl rfl dX11_init_37 ?_
  refine pn_aload_n (pc := 40) (i := 0) (j := 0) (x := 207) dX11_init_40 rfl rfl ?_
  refine pn_bipush (pc := 41) (v := 26) dX11_init_41 rfl ?_
  refine pn_newa (n := 212) (pc := 43) (N := 26) (t0 := 1) (ty := .long) (x := .inr (.inl (fun _ => 0))) dX11_init_43 rfl pn_aclong (by decide) (by decide) (by decide) rfl (fun _ _ q => q) q5 (by show pg_ce S M 212 _ = _; simp only [pg_ce, (z5).2]) (fun _ => rfl) (by omega) ⟨by decide, by decide⟩ ?_
  refine pn_dup (pc := 45) dX11_init_45 rfl ?_
  refine pn_iconst (pc := 46) (v := 0) dX11_init_46 rfl ?_
  refine pn_ldc2 (pc := 47) (v := 6251602) (pg_g (pg_t6 61 rfl) rfl) dX11_init_47 ?_
  refine pn_last (pc := 50) (b := 212) (N := 26) q5 rfl ⟨by omega, by omega⟩ (by unfold vp_in; decide) dX11_init_50 ?_
  change pn_At S Λ YX11_init (d + 2) 51 _ _ (pn_wd M 1) _
  refine pn_dup (pc := 51) dX11_init_51 rfl ?_
  refine pn_iconst (pc := 52) (v := 1) dX11_init_52 rfl ?_
  refine pn_ldc2 (pc := 53) (v := 1177493) (pg_g (pg_t6 62 rfl) rfl) dX11_init_53 ?_
  refine pn_last (pc := 56) (b := 212) (N := 26) q5 rfl ⟨by omega, by omega⟩ (by unfold vp_in; decide) dX11_init_56 ?_
  change pn_At S Λ YX11_init (d + 2) 57 _ _ (pn_wd M 2) _
  refine pn_dup (pc := 57) dX11_init_57 rfl ?_
  refine pn_iconst (pc := 58) (v := 2) dX11_init_58 rfl ?_
  refine pn_ldc2 (pc := 59) (v := 1604747592) (pg_g (pg_t6 63 rfl) rfl) dX11_init_59 ?_
  refine pn_last (pc := 62) (b := 212) (N := 26) q5 rfl ⟨by omega, by omega⟩ (by unfold vp_in; decide) dX11_init_62 ?_
  change pn_At S Λ YX11_init (d + 2) 63 _ _ (pn_wd M 3) _
  refine pn_dup (pc := 63) dX11_init_63 rfl ?_
  refine pn_iconst (pc := 64) (v := 3) dX11_init_64 rfl ?_
  refine pn_ldc2 (pc := 65) (v := 43890888) (pg_g (pg_t6 64 rfl) rfl) dX11_init_65 ?_
  refine pn_last (pc := 68) (b := 212) (N := 26) q5 rfl ⟨by omega, by omega⟩ (by unfold vp_in; decide) dX11_init_68 ?_
  change pn_At S Λ YX11_init (d + 2) 69 _ _ (pn_wd M 4) _
  refine pn_dup (pc := 69) dX11_init_69 rfl ?_
  refine pn_iconst (pc := 70) (v := 4) dX11_init_70 rfl ?_
  refine pn_ldc2 (pc := 71) (v := 817571) (pg_g (pg_t6 65 rfl) rfl) dX11_init_71 ?_
  refine pn_last (pc := 74) (b := 212) (N := 26) q5 rfl ⟨by omega, by omega⟩ (by unfold vp_in; decide) dX11_init_74 ?_
  change pn_At S Λ YX11_init (d + 2) 75 _ _ (pn_wd M 5) _
  refine pn_dup (pc := 75) dX11_init_75 rfl ?_
  refine pn_iconst (pc := 76) (v := 5) dX11_init_76 rfl ?_
  refine pn_ldc2 (pc := 77) (v := 43580913) (pg_g (pg_t6 66 rfl) rfl) dX11_init_77 ?_
  refine pn_last (pc := 80) (b := 212) (N := 26) q5 rfl ⟨by omega, by omega⟩ (by unfold vp_in; decide) dX11_init_80 ?_
  change pn_At S Λ YX11_init (d + 2) 81 _ _ (pn_wd M 6) _
  refine pn_dup (pc := 81) dX11_init_81 rfl ?_
  refine pn_bipush (pc := 82) (v := 6) dX11_init_82 rfl ?_
  refine pn_ldc2 (pc := 84) (v := 46929487) (pg_g (pg_t6 67 rfl) rfl) dX11_init_84 ?_
  refine pn_last (pc := 87) (b := 212) (N := 26) q5 rfl ⟨by omega, by omega⟩ (by unfold vp_in; decide) dX11_init_87 ?_
  change pn_At S Λ YX11_init (d + 2) 88 _ _ (pn_wd M 7) _
  refine pn_dup (pc := 88) dX11_init_88 rfl ?_
  refine pn_bipush (pc := 89) (v := 7) dX11_init_89 rfl ?_
  refine pn_ldc2 (pc := 91) (v := 14209610) (pg_g (pg_t6 68 rfl) rfl) dX11_init_91 ?_
  refine pn_last (pc := 94) (b := 212) (N := 26) q5 rfl ⟨by omega, by omega⟩ (by unfold vp_in; decide) dX11_init_94 ?_
  change pn_At S Λ YX11_init (d + 2) 95 _ _ (pn_wd M 8) _
  refine pn_dup (pc := 95) dX11_init_95 rfl ?_
  refine pn_bipush (pc := 96) (v := 8) dX11_init_96 rfl ?_
  refine pn_ldc2 (pc := 98) (v := 6232399) (pg_g (pg_t6 69 rfl) rfl) dX11_init_98 ?_
  refine pn_last (pc := 101) (b := 212) (N := 26) q5 rfl ⟨by omega, by omega⟩ (by unfold vp_in; decide) dX11_init_101 ?_
  change pn_At S Λ YX11_init (d + 2) 102 _ _ (pn_wd M 9) _
  refine pn_dup (pc := 102) dX11_init_102 rfl ?_
  refine pn_bipush (pc := 103) (v := 9) dX11_init_103 rfl ?_
  refine pn_ldc2 (pc := 105) (v := 31067180) (pg_g (pg_t6 70 rfl) rfl) dX11_init_105 ?_
  refine pn_last (pc := 108) (b := 212) (N := 26) q5 rfl ⟨by omega, by omega⟩ (by unfold vp_in; decide) dX11_init_108 ?_
  change pn_At S Λ YX11_init (d + 2) 109 _ _ (pn_wd M 10) _
  refine pn_dup (pc := 109) dX11_init_109 rfl ?_
  refine pn_bipush (pc := 110) (v := 10) dX11_init_110 rfl ?_
  refine pn_ldc2 (pc := 112) (v := 8420923) (pg_g (pg_t6 71 rfl) rfl) dX11_init_112 ?_
  refine pn_last (pc := 115) (b := 212) (N := 26) q5 rfl ⟨by omega, by omega⟩ (by unfold vp_in; decide) dX11_init_115 ?_
  change pn_At S Λ YX11_init (d + 2) 116 _ _ (pn_wd M 11) _
  refine pn_dup (pc := 116) dX11_init_116 rfl ?_
  refine pn_bipush (pc := 117) (v := 11) dX11_init_117 rfl ?_
  refine pn_ldc2 (pc := 119) (v := 407118) (pg_g (pg_t6 72 rfl) rfl) dX11_init_119 ?_
  refine pn_last (pc := 122) (b := 212) (N := 26) q5 rfl ⟨by omega, by omega⟩ (by unfold vp_in; decide) dX11_init_122 ?_
  change pn_At S Λ YX11_init (d + 2) 123 _ _ (pn_wd M 12) _
  refine pn_dup (pc := 123) dX11_init_123 rfl ?_
  refine pn_bipush (pc := 124) (v := 12) dX11_init_124 rfl ?_
  refine pn_ldc2 (pc := 126) (v := 1014841) (pg_g (pg_t6 73 rfl) rfl) dX11_init_126 ?_
  refine pn_last (pc := 129) (b := 212) (N := 26) q5 rfl ⟨by omega, by omega⟩ (by unfold vp_in; decide) dX11_init_129 ?_
  change pn_At S Λ YX11_init (d + 2) 130 _ _ (pn_wd M 13) _
  refine pn_dup (pc := 130) dX11_init_130 rfl ?_
  refine pn_bipush (pc := 131) (v := 13) dX11_init_131 rfl ?_
  refine pn_ldc2 (pc := 133) (v := 1167099) (pg_g (pg_t6 74 rfl) rfl) dX11_init_133 ?_
  refine pn_last (pc := 136) (b := 212) (N := 26) q5 rfl ⟨by omega, by omega⟩ (by unfold vp_in; decide) dX11_init_136 ?_
  change pn_At S Λ YX11_init (d + 2) 137 _ _ (pn_wd M 14) _
  refine pn_dup (pc := 137) dX11_init_137 rfl ?_
  refine pn_bipush (pc := 138) (v := 14) dX11_init_138 rfl ?_
  refine pn_ldc2 (pc := 140) (v := 3540) (pg_g (pg_t6 75 rfl) rfl) dX11_init_140 ?_
  refine pn_last (pc := 143) (b := 212) (N := 26) q5 rfl ⟨by omega, by omega⟩ (by unfold vp_in; decide) dX11_init_143 ?_
  change pn_At S Λ YX11_init (d + 2) 144 _ _ (pn_wd M 15) _
  refine pn_dup (pc := 144) dX11_init_144 rfl ?_
  refine pn_bipush (pc := 145) (v := 15) dX11_init_145 rfl ?_
  refine pn_ldc2 (pc := 147) (v := 426554) (pg_g (pg_t6 76 rfl) rfl) dX11_init_147 ?_
  refine pn_last (pc := 150) (b := 212) (N := 26) q5 rfl ⟨by omega, by omega⟩ (by unfold vp_in; decide) dX11_init_150 ?_
  change pn_At S Λ YX11_init (d + 2) 151 _ _ (pn_wd M 16) _
  refine pn_dup (pc := 151) dX11_init_151 rfl ?_
  refine pn_bipush (pc := 152) (v := 16) dX11_init_152 rfl ?_
  refine pn_ldc2 (pc := 154) (v := 30596128) (pg_g (pg_t6 77 rfl) rfl) dX11_init_154 ?_
  refine pn_last (pc := 157) (b := 212) (N := 26) q5 rfl ⟨by omega, by omega⟩ (by unfold vp_in; decide) dX11_init_157 ?_
  change pn_At S Λ YX11_init (d + 2) 158 _ _ (pn_wd M 17) _
  refine pn_dup (pc := 158) dX11_init_158 rfl ?_
  refine pn_bipush (pc := 159) (v := 17) dX11_init_159 rfl ?_
  refine pn_ldc2 (pc := 161) (v := 36021333) (pg_g (pg_t6 78 rfl) rfl) dX11_init_161 ?_
  refine pn_last (pc := 164) (b := 212) (N := 26) q5 rfl ⟨by omega, by omega⟩ (by unfold vp_in; decide) dX11_init_164 ?_
  change pn_At S Λ YX11_init (d + 2) 165 _ _ (pn_wd M 18) _
  refine pn_dup (pc := 165) dX11_init_165 rfl ?_
  refine pn_bipush (pc := 166) (v := 18) dX11_init_166 rfl ?_
  refine pn_ldc2 (pc := 168) (v := 320390) (pg_g (pg_t6 79 rfl) rfl) dX11_init_168 ?_
  refine pn_last (pc := 171) (b := 212) (N := 26) q5 rfl ⟨by omega, by omega⟩ (by unfold vp_in; decide) dX11_init_171 ?_
  change pn_At S Λ YX11_init (d + 2) 172 _ _ (pn_wd M 19) _
  refine pn_dup (pc := 172) dX11_init_172 rfl ?_
  refine pn_bipush (pc := 173) (v := 19) dX11_init_173 rfl ?_
  refine pn_ldc2 (pc := 175) (v := 1186121) (pg_g (pg_t6 80 rfl) rfl) dX11_init_175 ?_
  refine pn_last (pc := 178) (b := 212) (N := 26) q5 rfl ⟨by omega, by omega⟩ (by unfold vp_in; decide) dX11_init_178 ?_
  change pn_At S Λ YX11_init (d + 2) 179 _ _ (pn_wd M 20) _
  refine pn_dup (pc := 179) dX11_init_179 rfl ?_
  refine pn_bipush (pc := 180) (v := 20) dX11_init_180 rfl ?_
  refine pn_ldc2 (pc := 182) (v := 19741) (pg_g (pg_t6 81 rfl) rfl) dX11_init_182 ?_
  refine pn_last (pc := 185) (b := 212) (N := 26) q5 rfl ⟨by omega, by omega⟩ (by unfold vp_in; decide) dX11_init_185 ?_
  change pn_At S Λ YX11_init (d + 2) 186 _ _ (pn_wd M 21) _
  refine pn_dup (pc := 186) dX11_init_186 rfl ?_
  refine pn_bipush (pc := 187) (v := 21) dX11_init_187 rfl ?_
  refine pn_ldc2 (pc := 189) (v := 1891) (pg_g (pg_t6 82 rfl) rfl) dX11_init_189 ?_
  refine pn_last (pc := 192) (b := 212) (N := 26) q5 rfl ⟨by omega, by omega⟩ (by unfold vp_in; decide) dX11_init_192 ?_
  change pn_At S Λ YX11_init (d + 2) 193 _ _ (pn_wd M 22) _
  refine pn_dup (pc := 193) dX11_init_193 rfl ?_
  refine pn_bipush (pc := 194) (v := 22) dX11_init_194 rfl ?_
  refine pn_ldc2 (pc := 196) (v := 573) (pg_g (pg_t6 83 rfl) rfl) dX11_init_196 ?_
  refine pn_last (pc := 199) (b := 212) (N := 26) q5 rfl ⟨by omega, by omega⟩ (by unfold vp_in; decide) dX11_init_199 ?_
  change pn_At S Λ YX11_init (d + 2) 200 _ _ (pn_wd M 23) _
  refine pn_dup (pc := 200) dX11_init_200 rfl ?_
  refine pn_bipush (pc := 201) (v := 23) dX11_init_201 rfl ?_
  refine pn_ldc2 (pc := 203) (v := 1177862) (pg_g (pg_t6 84 rfl) rfl) dX11_init_203 ?_
  refine pn_last (pc := 206) (b := 212) (N := 26) q5 rfl ⟨by omega, by omega⟩ (by unfold vp_in; decide) dX11_init_206 ?_
  change pn_At S Λ YX11_init (d + 2) 207 _ _ (pn_wd M 24) _
  refine pn_dup (pc := 207) dX11_init_207 rfl ?_
  refine pn_bipush (pc := 208) (v := 24) dX11_init_208 rfl ?_
  refine pn_ldc2 (pc := 210) (v := 660580) (pg_g (pg_t6 85 rfl) rfl) dX11_init_210 ?_
  refine pn_last (pc := 213) (b := 212) (N := 26) q5 rfl ⟨by omega, by omega⟩ (by unfold vp_in; decide) dX11_init_213 ?_
  change pn_At S Λ YX11_init (d + 2) 214 _ _ (pn_wd M 25) _
  refine pn_dup (pc := 214) dX11_init_214 rfl ?_
  refine pn_bipush (pc := 215) (v := 25) dX11_init_215 rfl ?_
  refine pn_ldc2 (pc := 217) (v := 975695) (pg_g (pg_t6 86 rfl) rfl) dX11_init_217 ?_
  refine pn_last (pc := 220) (b := 212) (N := 26) q5 rfl ⟨by omega, by omega⟩ (by unfold vp_in; decide) dX11_init_220 ?_
  change pn_At S Λ YX11_init (d + 2) 221 _ _ (pn_wd M 26) _
  have fw := pn_wd_fr M 26
  have ew := pn_wd_1 M 26
  have aw := pn_wd_at M 26
  generalize pn_wd M 26 = MW at fw ew aw ⊢
  refine pn_putF (pc := 221) (k := 9) (N := 38) (T := TX11) (ty := .array .long) tyX11 rfl pg_inX11 tyX11_ok nmX11 (by decide) (by simp only [List.length_set]; decide) ⟨by omega, by omega⟩ (pg_g (pg_t6 108 rfl) rfl) rfl rfl rfl rfl rfl dX11_init_221 ?_
  refine pn_aload_n (pc := 224) (i := 0) (j := 0) (x := 207) dX11_init_224 rfl rfl ?_
  refine pn_sipush (pc := 225) (v := 200) dX11_init_225 rfl ?_
  refine pn_newa (n := 213) (pc := 228) (N := 200) (t0 := 0) (ty := .int) (x := .inl (fun _ => 0)) dX11_init_228 rfl pn_acint (by decide) (by decide) (by decide) rfl (fun _ _ q => q) q6 (by show pg_ce S MW 213 _ = _; simp only [pg_ce, ew, (z6).1]) (fun _ => rfl) (by omega) ⟨by decide, by decide⟩ ?_
  refine pn_putF (pc := 230) (k := 10) (N := 38) (T := TX11) (ty := .array .int) tyX11 rfl pg_inX11 tyX11_ok nmX11 (by decide) (by simp only [List.length_set]; decide) ⟨by omega, by omega⟩ (pg_g (pg_t6 109 rfl) rfl) rfl rfl rfl rfl rfl dX11_init_230 ?_
  refine pn_aload_n (pc := 233) (i := 0) (j := 0) (x := 207) dX11_init_233 rfl rfl ?_
  refine pn_sipush (pc := 234) (v := 2200) dX11_init_234 rfl ?_
  refine pn_newa (n := 214) (pc := 237) (N := 2200) (t0 := 0) (ty := .int) (x := .inl (fun _ => 0)) dX11_init_237 rfl pn_acint (by decide) (by decide) (by decide) rfl (fun _ _ q => q) q7 (by show pg_ce S MW 214 _ = _; simp only [pg_ce, ew, (z7).1]) (fun _ => rfl) (by omega) ⟨by decide, by decide⟩ ?_
  refine pn_putF (pc := 239) (k := 11) (N := 38) (T := TX11) (ty := .array .int) tyX11 rfl pg_inX11 tyX11_ok nmX11 (by decide) (by simp only [List.length_set]; decide) ⟨by omega, by omega⟩ (pg_g (pg_t6 110 rfl) rfl) rfl rfl rfl rfl rfl dX11_init_239 ?_
  refine pn_aload_n (pc := 242) (i := 0) (j := 0) (x := 207) dX11_init_242 rfl rfl ?_
  refine pn_sipush (pc := 243) (v := 2200) dX11_init_243 rfl ?_
  refine pn_newa (n := 215) (pc := 246) (N := 2200) (t0 := 0) (ty := .int) (x := .inl (fun _ => 0)) dX11_init_246 rfl pn_acint (by decide) (by decide) (by decide) rfl (fun _ _ q => q) q8 (by show pg_ce S MW 215 _ = _; simp only [pg_ce, ew, (z8).1]) (fun _ => rfl) (by omega) ⟨by decide, by decide⟩ ?_
  refine pn_putF (pc := 248) (k := 12) (N := 38) (T := TX11) (ty := .array .int) tyX11 rfl pg_inX11 tyX11_ok nmX11 (by decide) (by simp only [List.length_set]; decide) ⟨by omega, by omega⟩ (pg_g (pg_t6 111 rfl) rfl) rfl rfl rfl rfl rfl dX11_init_248 ?_
  refine pn_aload_n (pc := 251) (i := 0) (j := 0) (x := 207) dX11_init_251 rfl rfl ?_
  refine pn_bipush (pc := 252) (v := 6) dX11_init_252 rfl ?_
  refine pn_newa (n := 216) (pc := 254) (N := 6) (t0 := 1) (ty := .long) (x := .inr (.inl (fun _ => 0))) dX11_init_254 rfl pn_aclong (by decide) (by decide) (by decide) rfl (fun _ _ q => q) q9 (by show pg_ce S MW 216 _ = _; simp only [pg_ce, fw.2.1 216 (by decide), (z9).2]) (fun _ => rfl) (by omega) ⟨by decide, by decide⟩ ?_
  refine pn_putF (pc := 256) (k := 14) (N := 38) (T := TX11) (ty := .array .long) tyX11 rfl pg_inX11 tyX11_ok nmX11 (by decide) (by simp only [List.length_set]; decide) ⟨by omega, by omega⟩ (pg_g (pg_t6 113 rfl) rfl) rfl rfl rfl rfl rfl dX11_init_256 ?_
  refine pn_aload_n (pc := 259) (i := 0) (j := 0) (x := 207) dX11_init_259 rfl rfl ?_
  refine pn_bipush (pc := 260) (v := 6) dX11_init_260 rfl ?_
  refine pn_newa (n := 217) (pc := 262) (N := 6) (t0 := 1) (ty := .long) (x := .inr (.inl (fun _ => 0))) dX11_init_262 rfl pn_aclong (by decide) (by decide) (by decide) rfl (fun _ _ q => q) q10 (by show pg_ce S MW 217 _ = _; simp only [pg_ce, fw.2.1 217 (by decide), (z10).2]) (fun _ => rfl) (by omega) ⟨by decide, by decide⟩ ?_
  refine pn_putF (pc := 264) (k := 15) (N := 38) (T := TX11) (ty := .array .long) tyX11 rfl pg_inX11 tyX11_ok nmX11 (by decide) (by simp only [List.length_set]; decide) ⟨by omega, by omega⟩ (pg_g (pg_t6 114 rfl) rfl) rfl rfl rfl rfl rfl dX11_init_264 ?_
  refine pn_aload_n (pc := 267) (i := 0) (j := 0) (x := 207) dX11_init_267 rfl rfl ?_
  refine pn_sipush (pc := 268) (v := 200) dX11_init_268 rfl ?_
  refine pn_newa (n := 218) (pc := 271) (N := 200) (t0 := 0) (ty := .int) (x := .inl (fun _ => 0)) dX11_init_271 rfl pn_acint (by decide) (by decide) (by decide) rfl (fun _ _ q => q) q11 (by show pg_ce S MW 218 _ = _; simp only [pg_ce, ew, (z11).1]) (fun _ => rfl) (by omega) ⟨by decide, by decide⟩ ?_
  refine pn_putF (pc := 273) (k := 19) (N := 38) (T := TX11) (ty := .array .int) tyX11 rfl pg_inX11 tyX11_ok nmX11 (by decide) (by simp only [List.length_set]; decide) ⟨by omega, by omega⟩ (pg_g (pg_t6 118 rfl) rfl) rfl rfl rfl rfl rfl dX11_init_273 ?_
  refine pn_aload_n (pc := 276) (i := 0) (j := 0) (x := 207) dX11_init_276 rfl rfl ?_
  refine pn_iconst (pc := 277) (v := 3) dX11_init_277 rfl ?_
  refine pn_newa (n := 219) (pc := 278) (N := 3) (t0 := 0) (ty := .int) (x := .inl (fun _ => 0)) dX11_init_278 rfl pn_acint (by decide) (by decide) (by decide) rfl (fun _ _ q => q) q12 (by show pg_ce S MW 219 _ = _; simp only [pg_ce, ew, (z12).1]) (fun _ => rfl) (by omega) ⟨by decide, by decide⟩ ?_
  refine pn_putF (pc := 280) (k := 20) (N := 38) (T := TX11) (ty := .array .int) tyX11 rfl pg_inX11 tyX11_ok nmX11 (by decide) (by simp only [List.length_set]; decide) ⟨by omega, by omega⟩ (pg_g (pg_t6 119 rfl) rfl) rfl rfl rfl rfl rfl dX11_init_280 ?_
  refine pn_aload_n (pc := 283) (i := 0) (j := 0) (x := 207) dX11_init_283 rfl rfl ?_
  refine pn_sipush (pc := 284) (v := 1100) dX11_init_284 rfl ?_
  refine pn_newa (n := 220) (pc := 287) (N := 1100) (t0 := 0) (ty := .int) (x := .inl (fun _ => 0)) dX11_init_287 rfl pn_acint (by decide) (by decide) (by decide) rfl (fun _ _ q => q) q13 (by show pg_ce S MW 220 _ = _; simp only [pg_ce, ew, (z13).1]) (fun _ => rfl) (by omega) ⟨by decide, by decide⟩ ?_
  refine pn_putF (pc := 289) (k := 21) (N := 38) (T := TX11) (ty := .array .int) tyX11 rfl pg_inX11 tyX11_ok nmX11 (by decide) (by simp only [List.length_set]; decide) ⟨by omega, by omega⟩ (pg_g (pg_t6 120 rfl) rfl) rfl rfl rfl rfl rfl dX11_init_289 ?_
  refine pn_aload_n (pc := 292) (i := 0) (j := 0) (x := 207) dX11_init_292 rfl rfl ?_
  refine pn_sipush (pc := 293) (v := 1242) dX11_init_293 rfl ?_
  refine pn_newa (n := 221) (pc := 296) (N := 1242) (t0 := 0) (ty := .int) (x := .inl (fun _ => 0)) dX11_init_296 rfl pn_acint (by decide) (by decide) (by decide) rfl (fun _ _ q => q) q14 (by show pg_ce S MW 221 _ = _; simp only [pg_ce, ew, (z14).1]) (fun _ => rfl) (by omega) ⟨by decide, by decide⟩ ?_
  refine pn_putF (pc := 298) (k := 22) (N := 38) (T := TX11) (ty := .array .int) tyX11 rfl pg_inX11 tyX11_ok nmX11 (by decide) (by simp only [List.length_set]; decide) ⟨by omega, by omega⟩ (pg_g (pg_t6 121 rfl) rfl) rfl rfl rfl rfl rfl dX11_init_298 ?_
  refine pn_aload_n (pc := 301) (i := 0) (j := 0) (x := 207) dX11_init_301 rfl rfl ?_
  refine pn_iconst (pc := 302) (v := 4) dX11_init_302 rfl ?_
  refine pn_newa (n := 222) (pc := 303) (N := 4) (t0 := 2) (ty := .boolean) (x := .inl (fun _ => 0)) dX11_init_303 rfl pn_acboolean (by decide) (by decide) (by decide) rfl (fun _ _ q => q) q15 (by show pg_ce S MW 222 _ = _; simp only [pg_ce, ew, (z15).1]) (fun _ => rfl) (by omega) ⟨by decide, by decide⟩ ?_
  refine pn_putF (pc := 305) (k := 24) (N := 38) (T := TX11) (ty := .array .boolean) tyX11 rfl pg_inX11 tyX11_ok nmX11 (by decide) (by simp only [List.length_set]; decide) ⟨by omega, by omega⟩ (pg_g (pg_t6 123 rfl) rfl) rfl rfl rfl rfl rfl dX11_init_305 ?_
  refine pn_aload_n (pc := 308) (i := 0) (j := 0) (x := 207) dX11_init_308 rfl rfl ?_
  refine pn_bipush (pc := 309) (v := 6) dX11_init_309 rfl ?_
  refine pn_newa (n := 223) (pc := 311) (N := 6) (t0 := 0) (ty := .int) (x := .inl (fun _ => 0)) dX11_init_311 rfl pn_acint (by decide) (by decide) (by decide) rfl (fun _ _ q => q) q16 (by show pg_ce S MW 223 _ = _; simp only [pg_ce, ew, (z16).1]) (fun _ => rfl) (by omega) ⟨by decide, by decide⟩ ?_
  refine pn_putF (pc := 313) (k := 25) (N := 38) (T := TX11) (ty := .array .int) tyX11 rfl pg_inX11 tyX11_ok nmX11 (by decide) (by simp only [List.length_set]; decide) ⟨by omega, by omega⟩ (pg_g (pg_t6 124 rfl) rfl) rfl rfl rfl rfl rfl dX11_init_313 ?_
  refine pn_aload_n (pc := 316) (i := 0) (j := 0) (x := 207) dX11_init_316 rfl rfl ?_
  refine pn_bipush (pc := 317) (v := 6) dX11_init_317 rfl ?_
  refine pn_newa (n := 224) (pc := 319) (N := 6) (t0 := 0) (ty := .int) (x := .inl (fun _ => 0)) dX11_init_319 rfl pn_acint (by decide) (by decide) (by decide) rfl (fun _ _ q => q) q17 (by show pg_ce S MW 224 _ = _; simp only [pg_ce, ew, (z17).1]) (fun _ => rfl) (by omega) ⟨by decide, by decide⟩ ?_
  refine pn_putF (pc := 321) (k := 26) (N := 38) (T := TX11) (ty := .array .int) tyX11 rfl pg_inX11 tyX11_ok nmX11 (by decide) (by simp only [List.length_set]; decide) ⟨by omega, by omega⟩ (pg_g (pg_t6 125 rfl) rfl) rfl rfl rfl rfl rfl dX11_init_321 ?_
  refine pn_aload_n (pc := 324) (i := 0) (j := 0) (x := 207) dX11_init_324 rfl rfl ?_
  refine pn_bipush (pc := 325) (v := 6) dX11_init_325 rfl ?_
  refine pn_newa (n := 225) (pc := 327) (N := 6) (t0 := 0) (ty := .int) (x := .inl (fun _ => 0)) dX11_init_327 rfl pn_acint (by decide) (by decide) (by decide) rfl (fun _ _ q => q) q18 (by show pg_ce S MW 225 _ = _; simp only [pg_ce, ew, (z18).1]) (fun _ => rfl) (by omega) ⟨by decide, by decide⟩ ?_
  refine pn_putF (pc := 329) (k := 27) (N := 38) (T := TX11) (ty := .array .int) tyX11 rfl pg_inX11 tyX11_ok nmX11 (by decide) (by simp only [List.length_set]; decide) ⟨by omega, by omega⟩ (pg_g (pg_t6 126 rfl) rfl) rfl rfl rfl rfl rfl dX11_init_329 ?_
  refine pn_aload_n (pc := 332) (i := 0) (j := 0) (x := 207) dX11_init_332 rfl rfl ?_
  refine pn_bipush (pc := 333) (v := 72) dX11_init_333 rfl ?_
  refine pn_newa (n := 226) (pc := 335) (N := 72) (t0 := 0) (ty := .int) (x := .inl (fun _ => 0)) dX11_init_335 rfl pn_acint (by decide) (by decide) (by decide) rfl (fun _ _ q => q) q19 (by show pg_ce S MW 226 _ = _; simp only [pg_ce, ew, (z19).1]) (fun _ => rfl) (by omega) ⟨by decide, by decide⟩ ?_
  refine pn_putF (pc := 337) (k := 30) (N := 38) (T := TX11) (ty := .array .int) tyX11 rfl pg_inX11 tyX11_ok nmX11 (by decide) (by simp only [List.length_set]; decide) ⟨by omega, by omega⟩ (pg_g (pg_t6 129 rfl) rfl) rfl rfl rfl rfl rfl dX11_init_337 ?_
  refine pn_aload_n (pc := 340) (i := 0) (j := 0) (x := 207) dX11_init_340 rfl rfl ?_
  refine pn_bipush (pc := 341) (v := 36) dX11_init_341 rfl ?_
  refine pn_newa (n := 227) (pc := 343) (N := 36) (t0 := 0) (ty := .int) (x := .inl (fun _ => 0)) dX11_init_343 rfl pn_acint (by decide) (by decide) (by decide) rfl (fun _ _ q => q) q20 (by show pg_ce S MW 227 _ = _; simp only [pg_ce, ew, (z20).1]) (fun _ => rfl) (by omega) ⟨by decide, by decide⟩ ?_
  refine pn_putF (pc := 345) (k := 31) (N := 38) (T := TX11) (ty := .array .int) tyX11 rfl pg_inX11 tyX11_ok nmX11 (by decide) (by simp only [List.length_set]; decide) ⟨by omega, by omega⟩ (pg_g (pg_t6 130 rfl) rfl) rfl rfl rfl rfl rfl dX11_init_345 ?_
  refine pn_aload_n (pc := 348) (i := 0) (j := 0) (x := 207) dX11_init_348 rfl rfl ?_
  refine pn_bipush (pc := 349) (v := 6) dX11_init_349 rfl ?_
  refine pn_newa (n := 228) (pc := 351) (N := 6) (t0 := 0) (ty := .int) (x := .inl (fun _ => 0)) dX11_init_351 rfl pn_acint (by decide) (by decide) (by decide) rfl (fun _ _ q => q) q21 (by show pg_ce S MW 228 _ = _; simp only [pg_ce, ew, (z21).1]) (fun _ => rfl) (by omega) ⟨by decide, by decide⟩ ?_
  refine pn_putF (pc := 353) (k := 32) (N := 38) (T := TX11) (ty := .array .int) tyX11 rfl pg_inX11 tyX11_ok nmX11 (by decide) (by simp only [List.length_set]; decide) ⟨by omega, by omega⟩ (pg_g (pg_t6 131 rfl) rfl) rfl rfl rfl rfl rfl dX11_init_353 ?_
  refine pn_aload_n (pc := 356) (i := 0) (j := 0) (x := 207) dX11_init_356 rfl rfl ?_
  refine pn_bipush (pc := 357) (v := 6) dX11_init_357 rfl ?_
  refine pn_newa (n := 229) (pc := 359) (N := 6) (t0 := 0) (ty := .int) (x := .inl (fun _ => 0)) dX11_init_359 rfl pn_acint (by decide) (by decide) (by decide) rfl (fun _ _ q => q) q22 (by show pg_ce S MW 229 _ = _; simp only [pg_ce, ew, (z22).1]) (fun _ => rfl) (by omega) ⟨by decide, by decide⟩ ?_
  refine pn_putF (pc := 361) (k := 33) (N := 38) (T := TX11) (ty := .array .int) tyX11 rfl pg_inX11 tyX11_ok nmX11 (by decide) (by simp only [List.length_set]; decide) ⟨by omega, by omega⟩ (pg_g (pg_t6 132 rfl) rfl) rfl rfl rfl rfl rfl dX11_init_361 ?_
  refine pn_aload_n (pc := 364) (i := 0) (j := 0) (x := 207) dX11_init_364 rfl rfl ?_
  refine pn_bipush (pc := 365) (v := 10) dX11_init_365 rfl ?_
  refine pn_newa (n := 230) (pc := 367) (N := 10) (t0 := 0) (ty := .int) (x := .inl (fun _ => 0)) dX11_init_367 rfl pn_acint (by decide) (by decide) (by decide) rfl (fun _ _ q => q) q23 (by show pg_ce S MW 230 _ = _; simp only [pg_ce, ew, (z23).1]) (fun _ => rfl) (by omega) ⟨by decide, by decide⟩ ?_
  refine pn_putF (pc := 369) (k := 36) (N := 38) (T := TX11) (ty := .array .int) tyX11 rfl pg_inX11 tyX11_ok nmX11 (by decide) (by simp only [List.length_set]; decide) ⟨by omega, by omega⟩ (pg_g (pg_t6 135 rfl) rfl) rfl rfl rfl rfl rfl dX11_init_369 ?_
  refine pn_aload_n (pc := 372) (i := 0) (j := 0) (x := 207) dX11_init_372 rfl rfl ?_
  refine pn_iconst (pc := 373) (v := nI 0) dX11_init_373 rfl ?_
  refine pn_pure0 (pc := 374) (x := 207) (As := [.int (nI 0)]) (T := TX11) (N := 38) (ci := 11) okX11_standsAsAlways (pg_g (pg_t6 87 rfl) rfl) rfl (by omega) q0 rfl (Nat.le_refl _) ⟨by decide, by decide⟩ (by decide) (rm_stands (S := S) (d := d + 1) (b9 := 0) (by omega) (pn_cut_11 h)) (fun r M2 hp => hp.1) dX11_init_374 (fun b o ho => ?_) ⟨_, q23⟩ (fun M1 hp1 => ?_)
  · have hb : b = 207 := by
      by_cases q : b = 207
      · exact q
      · simp [pn_up, q] at ho
    subst hb
    simp only [pn_up, if_true] at ho
    cases Option.some.inj ho
    rw [q0]
    have w1 : MW.1 207 = fun _ => 0 := by rw [ew]; exact z0.1
    have w2 : MW.2.1 207 = fun _ => 0 := by rw [fw.2.1 207 (by decide)]; exact z0.2
    simp [pg_ce, pg_fvs, pg_fv, pg_up, w1, w2]
  obtain ⟨-, st1, st2, st3⟩ := hp1
  refine pn_aload_n (pc := 377) (i := 0) (j := 0) (x := 207) dX11_init_377 rfl rfl ?_
  refine pn_pure0 (pc := 378) (x := 207) (As := []) (T := TX11) (N := 38) (ci := 11) okX11_begins (pg_g (pg_t6 91 rfl) rfl) rfl (by omega) q0 rfl (Nat.le_refl _) ⟨by decide, by decide⟩ (by decide) (rm_begins9 (S := S) (d := d) (pn_cut_11 h) (rm_L.zero st1) rd_X0_ok.1) (fun r M2 hp => hp.1) dX11_init_378 (fun b o ho => by cases ho) ⟨_, q23⟩ (fun M2 hp2 => ?_)
  obtain ⟨-, b1, b2, b3, b4, b5, b6, b7⟩ := hp2
  refine pn_vret (pc := 381) rfl dX11_init_381 ⟨(rm_L.zero st1).keep b6 (by decide) (by decide) (by decide), b1, b2, b3, b5, ?_, ?_, fun k hk => ?_, ?_⟩ (fun b o ho => by cases ho)
  · funext j
    by_cases hj : j = 23
    · rw [hj]; exact b4
    · rw [b7 j hj, st3.1 207 (by decide), ew, z0.1]
  · rw [b6.1 208 (by decide), st3.1 208 (by decide), ew, z1.1]
  · rw [b6.2.1 212 (by decide), st3.2.1 212 (by decide)]
    exact aw k hk
  · exact (fw.mono (fun b hb => by simp at hb ⊢; omega)).trans ((st3.mono (fun b hb => by simp at hb ⊢; omega)).trans (b6.mono (fun b hb => by simp at hb ⊢; omega)))
end PNW
