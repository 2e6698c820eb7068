/-! the law's loop -/
theorem lw_n1 (L : Nat) (h : L < 3592) : (nI L - 7).toInt = (L : Int) - 7 := by
  by_cases h7 : L < 7
  · have key : ∀ n : Nat, n < 7 → (nI n - 7).toInt = (n : Int) - 7 := by decide +kernel
    exact key L h7
  · obtain ⟨n, rfl⟩ : ∃ n, L = n + 7 := ⟨L - 7, by omega⟩
    rw [← nI_add, show nI n + nI 7 - 7 = nI n from Int32.add_sub_cancel _ _, nI_toInt (by omega)]
    omega
theorem lw_n2 (L : Nat) (h : L < 3592) : (nI L).toInt = (L : Int) := nI_toInt (by omega)
theorem lw_n3 (L : Nat) (h : L < 3592) : nI L + 1 = nI (L + 1) ∧ nI L + 2 = nI (L + 2) ∧ nI L + 3 = nI (L + 3) ∧ nI L + 4 = nI (L + 4) ∧ nI L + 5 = nI (L + 5) ∧ nI L + 6 = nI (L + 6) ∧ nI L + 0 = nI (L + 0) := ⟨nI_add L 1, nI_add L 2, nI_add L 3, nI_add L 4, nI_add L 5, nI_add L 6, nI_add L 0⟩
theorem lw_n4 (L : Nat) (h : L < 3592) : nI L + Int32.ofInt 7 = nI (L + 7) := nI_add L 7
theorem lw_n5 (y : Int32) : ∃ n : Nat, n < 32 ∧ y &&& 31 = nI n := by
  refine ⟨y.toBitVec.toNat % 32, Nat.mod_lt _ (by decide), ?_⟩
  rw [← Int32.toBitVec_inj]
  apply BitVec.eq_of_toNat_eq
  have h1 : (y &&& 31).toBitVec.toNat = y.toBitVec.toNat % 32 := by
    rw [Int32.toBitVec_and, BitVec.toNat_and]
    exact Nat.and_two_pow_sub_one_eq_mod _ 5
  have h2 : ∀ n : Nat, n < 32 → (nI n).toBitVec.toNat = n := by decide +kernel
  rw [h1, h2 _ (Nat.mod_lt _ (by decide))]
theorem lw_n6 {i L : Nat} (h : i + 7 ≤ L) (hL : L ≤ 3584) : lw_in i L := by
  obtain ⟨a1, a2, a3, a4, a5, a6, a0⟩ := lw_n3 i (by omega)
  intro c hc
  have key : ∀ n : Nat, n < 7 → vp_in (nI (i + n)) L := fun n hn => vp_in_nI (by omega) (by omega)
  simp only [List.mem_cons, List.not_mem_nil, or_false] at hc
  rcases hc with rfl | rfl | rfl | rfl | rfl | rfl | rfl
  · rw [a0]; exact key 0 (by omega)
  · rw [a1]; exact key 1 (by omega)
  · rw [a2]; exact key 2 (by omega)
  · rw [a3]; exact key 3 (by omega)
  · rw [a4]; exact key 4 (by omega)
  · rw [a5]; exact key 5 (by omega)
  · rw [a6]; exact key 6 (by omega)
section LL
variable {S : pg_S} {Λ : pg_L} {M : pg_M} {G : sp_G} {j b L k sl : Nat} {xs : Nat → Int32} {fs0 fs1 : List pg_F}
theorem lc_step (hF : pg_full Λ) (hX : pg_isX11 Λ) (h0 : Λ 0 = some (.inl (10, fs0))) (h207 : Λ 207 = some (.inl (11, fs1))) (h231 : Λ 231 = some (.inr (.long, 1, some none))) (hL : L ≤ 3584) (hj : j ≤ 512) (hk : k + 1 ≤ 601024 ∧ sl + 6 ≤ 7293033) (hI : lw_I M G j)
    (nx : 7 * j + 7 ≤ L → ∀ M2 G2, lw_I M2 G2 (j + 1) → lq_At S Λ YL 0 23 (lw_ls (7 * (j + 1))) [] M2 (b, L, xs, k + 1, sl + 6)) : lq_At S Λ YL 0 23 (lw_ls (7 * j)) [] M (b, L, xs, k, sl) := by
  refine lq_iload (j := 0) dL_law_23 rfl ?_
  refine lq_aload_n (j := 4) dL_law_25 rfl rfl ?_
  refine lq_slen dL_law_26 ?_
  refine lq_bipush (v := 7) dL_law_27 rfl ?_
  refine lq_isub dL_law_29 ?_
  refine lq_icmp_gt (tgt := 1103) dL_law_30 rfl (fun _ => ?_) (fun q => ?_)
  · refine lq_iconst (v := 1) dL_law_1103 rfl ?_
    exact lq_ret rfl rfl ⟨by omega, by omega⟩ dL_law_1104
  have hi : 7 * j + 7 ≤ L := by
    have q1 := mt Int32.lt_iff_toInt_lt.mpr q
    have e1 : (Int32.ofNat L - 7).toInt = (L : Int) - 7 := lw_n1 L (by omega)
    have e2 := lw_n2 (7 * j) (by omega)
    have q2 : ¬ (Int32.ofNat L - 7).toInt < (nI (7 * j)).toInt := q1
    rw [e1, e2] at q2
    omega
  have hin : lw_in (7 * j) L := lw_n6 hi hL
  have kk : ∀ M2 G2, lw_I M2 G2 (j + 1) → lq_At S Λ YL 0 1097 (lw_ls (7 * j)) [] M2 (b, L, xs, k + 1, sl + 6) := by
    intro M2 G2 h2
    refine lq_iinc (j := 0) dL_law_1097 rfl (lw_n4 (7 * j) (by omega)) (by decide) rfl ?_
    exact lq_goto (tgt := 23) dL_law_1100 rfl (nx hi M2 G2 h2)
  have hk0 : k ≤ 601024 ∧ sl ≤ 7293033 := ⟨by omega, by omega⟩
  have hh : j < 2 ^ 20 := by omega
  refine lq_aload_n (j := 4) dL_law_33 rfl rfl ?_
  refine lq_iload (j := 0) dL_law_34 rfl ?_
  have h00 := hin 0 (by decide)
  rw [(lw_n3 (7 * j) (by omega)).2.2.2.2.2.2] at h00
  refine lq_sld (i := nI (7 * j)) h00 dL_law_36 ?_
  refine lq_bipush (v := 31) dL_law_37 rfl ?_
  refine lq_iand dL_law_39 ?_
  obtain ⟨n, hn, en⟩ := lw_n5 (xs (nI (7 * j)).toNatClampNeg)
  show lq_At S Λ YL 0 40 (lw_ls (7 * j)) [.int (xs (nI (7 * j)).toNatClampNeg &&& 31)] M (b, L, xs, k, sl)
  rw [en]
  have other : 27 < n → lq_At S Λ YL 0 40 (lw_ls (7 * j)) [.int (nI n)] M (b, L, xs, k, sl) := by
    intro h27
    refine lq_tableOut (tgt := 1097) dL_law_40 (Or.inr ?_) rfl ?_
    · rw [lw_n2 n (by omega)]
      omega
    · exact lq_more (Nat.le_succ k) (Nat.le_add_right sl 6) (kk M G ⟨hI.1, hI.2.1, hI.2.2.more (Nat.le_succ j)⟩)
  rcases (by omega : n = 0 ∨ n = 1 ∨ n = 2 ∨ n = 3 ∨ n = 4 ∨ n = 5 ∨ n = 6 ∨ n = 7 ∨ n = 8 ∨ n = 9 ∨ n = 10 ∨ n = 11 ∨ n = 12 ∨ n = 13 ∨ n = 14 ∨ n = 15 ∨ n = 16 ∨ n = 17 ∨ n = 18 ∨ n = 19 ∨ n = 20 ∨ n = 21 ∨ n = 22 ∨ n = 23 ∨ n = 24 ∨ n = 25 ∨ n = 26 ∨ n = 27 ∨ 27 < n) with rfl | rfl | rfl | rfl | rfl | rfl | rfl | rfl | rfl | rfl | rfl | rfl | rfl | rfl | rfl | rfl | rfl | rfl | rfl | rfl | rfl | rfl | rfl | rfl | rfl | rfl | rfl | rfl | h27
  · exact lq_tableIn (tgt := 168) dL_law_40 (by decide) (by decide) rfl rfl (lc_0 hF hX h0 h207 hh hk0 hin hI kk)
  · exact lq_tableIn (tgt := 315) dL_law_40 (by decide) (by decide) rfl rfl (lc_1 hF hX h0 h207 hh hk0 hin hI kk)
  · exact lq_tableIn (tgt := 328) dL_law_40 (by decide) (by decide) rfl rfl (lc_2 hF hX h0 h207 hh hk0 hin hI kk)
  · exact lq_tableIn (tgt := 341) dL_law_40 (by decide) (by decide) rfl rfl (lc_3 hF hX h0 h207 hh hk0 hin hI kk)
  · exact lq_tableIn (tgt := 378) dL_law_40 (by decide) (by decide) rfl rfl (lc_4 hF hX h0 h207 hh hk0 hin hI kk)
  · exact lq_tableIn (tgt := 415) dL_law_40 (by decide) (by decide) rfl rfl (lc_5 hF hX h0 h207 hh hk0 hin hI kk)
  · exact lq_tableIn (tgt := 428) dL_law_40 (by decide) (by decide) rfl rfl (lc_6 hF hX h0 h207 hh hk0 hin hI kk)
  · exact lq_tableIn (tgt := 441) dL_law_40 (by decide) (by decide) rfl rfl (lc_7 hF hX h0 h207 hh hk0 hin hI kk)
  · exact lq_tableIn (tgt := 478) dL_law_40 (by decide) (by decide) rfl rfl (lc_8 hF hX h0 h207 hh hk0 hin hI kk)
  · exact lq_tableIn (tgt := 503) dL_law_40 (by decide) (by decide) rfl rfl (lc_9 hF hX h0 h207 hh hk0 hin hI kk)
  · exact lq_tableIn (tgt := 528) dL_law_40 (by decide) (by decide) rfl rfl (lc_10 hF hX h0 h207 hh hk0 hin hI kk)
  · exact lq_tableIn (tgt := 553) dL_law_40 (by decide) (by decide) rfl rfl (lc_11 hF hX h0 h207 hh hk0 hin hI kk)
  · exact lq_tableIn (tgt := 566) dL_law_40 (by decide) (by decide) rfl rfl (lc_12 hF hX h0 h207 hh hk0 hin hI kk)
  · exact lq_tableIn (tgt := 579) dL_law_40 (by decide) (by decide) rfl rfl (lc_13 hF hX h0 h207 hh hk0 hin hI kk)
  · exact lq_tableIn (tgt := 604) dL_law_40 (by decide) (by decide) rfl rfl (lc_14 hF hX h0 h207 hh hk0 hin hI kk)
  · exact lq_tableIn (tgt := 629) dL_law_40 (by decide) (by decide) rfl rfl (lc_15 hF hX h0 h207 hh hk0 hin hI kk)
  · exact lq_tableIn (tgt := 642) dL_law_40 (by decide) (by decide) rfl rfl (lc_16 hF hX h0 h207 hh hk0 hin hI kk)
  · exact lq_tableIn (tgt := 667) dL_law_40 (by decide) (by decide) rfl rfl (lc_17 hF hX h0 h207 hh hk0 hin hI kk)
  · exact lq_tableIn (tgt := 704) dL_law_40 (by decide) (by decide) rfl rfl (lc_18 hF hX h0 h207 hh hk0 hin hI kk)
  · exact lq_tableIn (tgt := 741) dL_law_40 (by decide) (by decide) rfl rfl (lc_19 hF hX h0 h207 hh hk0 hin hI kk)
  · exact lq_tableIn (tgt := 766) dL_law_40 (by decide) (by decide) rfl rfl (lc_20 hF hX h0 h207 hh hk0 hin hI kk)
  · exact lq_tableIn (tgt := 815) dL_law_40 (by decide) (by decide) rfl rfl (lc_21 hF hX h0 h207 hh hk0 hin hI kk)
  · exact lq_tableIn (tgt := 828) dL_law_40 (by decide) (by decide) rfl rfl (lc_22 hF hX h0 h207 hh hk0 hin hI kk)
  · exact lq_tableIn (tgt := 853) dL_law_40 (by decide) (by decide) rfl rfl (lc_23 hF hX h0 h207 hh hk0 hin hI kk)
  · exact lq_tableIn (tgt := 878) dL_law_40 (by decide) (by decide) rfl rfl (lc_24 hF hX h0 h207 h231 hh hk hin hI kk)
  · exact lq_tableIn (tgt := 970) dL_law_40 (by decide) (by decide) rfl rfl (lc_25 hF hX h0 h207 hh hk0 hin hI kk)
  · exact lq_tableIn (tgt := 1019) dL_law_40 (by decide) (by decide) rfl rfl (lc_26 hF hX h0 h207 hh hk0 hin hI kk)
  · exact lq_tableIn (tgt := 1072) dL_law_40 (by decide) (by decide) rfl rfl (lc_27 hF hX h0 h207 hh hk0 hin hI kk)
  · exact other h27
theorem lc_loop (hF : pg_full Λ) (hX : pg_isX11 Λ) (h0 : Λ 0 = some (.inl (10, fs0))) (h207 : Λ 207 = some (.inl (11, fs1))) (h231 : Λ 231 = some (.inr (.long, 1, some none))) (hL : L ≤ 3584) : ∀ (n j : Nat) (M : pg_M) (G : sp_G), n + j = 512 → lw_I M G j → lq_At S Λ YL 0 23 (lw_ls (7 * j)) [] M (b, L, xs, 1000 + j, 100000 + 6 * j) := by
  intro n
  induction n with
  | zero =>
    intro j M G hj hI
    exact lc_step hF hX h0 h207 h231 hL (by omega) ⟨by omega, by omega⟩ hI (fun q => by omega)
  | succ n ih =>
    intro j M G hj hI
    exact lc_step hF hX h0 h207 h231 hL (by omega) ⟨by omega, by omega⟩ hI (fun _ M2 G2 h2 => ih (j + 1) M2 G2 (by omega) h2)
end LL
