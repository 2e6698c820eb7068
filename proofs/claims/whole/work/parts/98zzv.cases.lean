/-! the law's loop: mark and rests -/
section LC3
variable {S : pg_S} {Λ : pg_L} {M : pg_M} {G : sp_G} {h i b L k sl : Nat} {xs : Nat → Int32} {fs0 fs1 : List pg_F}
theorem lc_26 (hF : pg_full Λ) (hX : pg_isX11 Λ) (h0 : Λ 0 = some (.inl (10, fs0))) (h207 : Λ 207 = some (.inl (11, fs1))) (hh : h < 2 ^ 20) (hk : k ≤ 601024 ∧ sl ≤ 7293033) (hin : lw_in i L) (hI : lw_I M G h) (kk : ∀ M2 G2, lw_I M2 G2 (h + 1) → lq_At S Λ YL 0 1097 (lw_ls i) [] M2 (b, L, xs, k + 1, sl + 6)) : lq_At S Λ YL 0 1019 (lw_ls i) [] M (b, L, xs, k, sl) := by
  have K : ∀ back : Bool, (xs (nI i + 2).toNatClampNeg = 0 → back = false) → (¬ xs (nI i + 2).toNatClampNeg = 0 → back = true) → lq_At S Λ YL 0 1040 (lw_ls i) [.int (b2i back), .int (xs (nI i + 1).toNatClampNeg), .ref 0] M (b, L, xs, k, sl) := by
    intro back hb0 hb1
    refine lq_callV (Y' := YX10_mark) (d' := 3) (As := [.int _, .int _]) (x := 0) (st := []) okX10_mark lkL_138 rfl h0 rfl (by decide) hk (Nat.le_of_ble_eq_true rfl) (rc_mark (d := 0) back hF hI.1 hI.2.2) dL_law_1040 (fun r M1 h1 => ?_)
    obtain ⟨v1, rfl, e1, g1, o1⟩ := h1
    have m1 := hI.2.1.out o1
    show lq_At S Λ YL 0 1043 (lw_ls i) [.int v1] M1 (b, L, xs, k, sl)
    have K2 : lq_At S Λ YL 0 1064 (lw_ls i) [.int (b2i back), .int (xs (nI i + 1).toNatClampNeg), .ref 207, .int v1] M1 (b, L, xs, k, sl) := by
      refine lq_callV (Y' := YX11_mark) (d' := 1) (As := [.int _, .int _]) (x := 207) (st := [.int v1]) okX11_mark lkL_142 rfl h207 rfl (by decide) hk (Nat.le_of_ble_eq_true rfl) (rm_mark (d := 0) back hX m1) dL_law_1064 (fun r M2 h2 => ?_)
      obtain ⟨v2, rfl, e2, g2, f2⟩ := h2
      show lq_At S Λ YL 0 1067 (lw_ls i) [.int v2, .int v1] M2 (b, L, xs, k, sl)
      refine lq_icmp_eq (tgt := 1097) dL_law_1067 rfl (fun _ => ?_) (fun q => absurd (e1.trans e2.symm) q)
      exact lq_more (Nat.le_succ k) (Nat.le_add_right sl 6) (kk M2 _ ⟨g1.off f2, g2, hI.2.2.qmark.more (Nat.le_succ h)⟩)
    refine lq_aload_n (j := 2) dL_law_1043 rfl rfl ?_
    refine lq_aload_n (j := 4) dL_law_1044 rfl rfl ?_
    refine lq_iload (j := 0) dL_law_1045 rfl ?_
    refine lq_iconst (v := 1) dL_law_1047 rfl ?_
    refine lq_iadd dL_law_1048 ?_
    refine lq_sld (hin 1 (by decide)) dL_law_1049 ?_
    refine lq_aload_n (j := 4) dL_law_1050 rfl rfl ?_
    refine lq_iload (j := 0) dL_law_1051 rfl ?_
    refine lq_iconst (v := 2) dL_law_1053 rfl ?_
    refine lq_iadd dL_law_1054 ?_
    refine lq_sld (hin 2 (by decide)) dL_law_1055 ?_
    refine lq_if_eq (tgt := 1063) dL_law_1056 rfl (fun q => ?_) (fun q => ?_)
    · refine lq_iconst (v := 0) dL_law_1063 rfl ?_
      rw [hb0 q] at K2
      exact K2
    · refine lq_iconst (v := 1) dL_law_1059 rfl ?_
      refine lq_goto (tgt := 1064) dL_law_1060 rfl ?_
      rw [hb1 q] at K2
      exact K2
  refine lq_aload_n (j := 3) dL_law_1019 rfl rfl ?_
  refine lq_aload_n (j := 4) dL_law_1020 rfl rfl ?_
  refine lq_iload (j := 0) dL_law_1021 rfl ?_
  refine lq_iconst (v := 1) dL_law_1023 rfl ?_
  refine lq_iadd dL_law_1024 ?_
  refine lq_sld (hin 1 (by decide)) dL_law_1025 ?_
  refine lq_aload_n (j := 4) dL_law_1026 rfl rfl ?_
  refine lq_iload (j := 0) dL_law_1027 rfl ?_
  refine lq_iconst (v := 2) dL_law_1029 rfl ?_
  refine lq_iadd dL_law_1030 ?_
  refine lq_sld (hin 2 (by decide)) dL_law_1031 ?_
  refine lq_if_eq (tgt := 1039) dL_law_1032 rfl (fun q => ?_) (fun q => ?_)
  · refine lq_iconst (v := 0) dL_law_1039 rfl ?_
    exact K false (fun _ => rfl) (fun z => absurd q z)
  · refine lq_iconst (v := 1) dL_law_1035 rfl ?_
    refine lq_goto (tgt := 1040) dL_law_1036 rfl ?_
    exact K true (fun z => absurd z q) (fun _ => rfl)
theorem lc_24 (hF : pg_full Λ) (hX : pg_isX11 Λ) (h0 : Λ 0 = some (.inl (10, fs0))) (h207 : Λ 207 = some (.inl (11, fs1))) (h231 : Λ 231 = some (.inr (.long, 1, some none))) (hh : h < 2 ^ 20) (hk : k + 1 ≤ 601024 ∧ sl + 6 ≤ 7293033) (hin : lw_in i L) (hI : lw_I M G h) (kk : ∀ M2 G2, lw_I M2 G2 (h + 1) → lq_At S Λ YL 0 1097 (lw_ls i) [] M2 (b, L, xs, k + 1, sl + 6)) : lq_At S Λ YL 0 878 (lw_ls i) [] M (b, L, xs, k, sl) := by
  refine lq_aload_n (j := 3) dL_law_878 rfl rfl ?_
  refine lq_aload_n (j := 4) dL_law_879 rfl rfl ?_
  refine lq_iload (j := 0) dL_law_880 rfl ?_
  refine lq_iconst (v := 1) dL_law_882 rfl ?_
  refine lq_iadd dL_law_883 ?_
  refine lq_sld (hin 1 (by decide)) dL_law_884 ?_
  refine lq_aload_n (j := 4) dL_law_885 rfl rfl ?_
  refine lq_iload (j := 0) dL_law_886 rfl ?_
  refine lq_iconst (v := 2) dL_law_888 rfl ?_
  refine lq_iadd dL_law_889 ?_
  refine lq_sld (hin 2 (by decide)) dL_law_890 ?_
  refine lq_aload_n (j := 4) dL_law_891 rfl rfl ?_
  refine lq_iload (j := 0) dL_law_892 rfl ?_
  refine lq_iconst (v := 3) dL_law_894 rfl ?_
  refine lq_iadd dL_law_895 ?_
  refine lq_sld (hin 3 (by decide)) dL_law_896 ?_
  refine lq_aload_n (j := 4) dL_law_897 rfl rfl ?_
  refine lq_iload (j := 0) dL_law_898 rfl ?_
  refine lq_iconst (v := 4) dL_law_900 rfl ?_
  refine lq_iadd dL_law_901 ?_
  refine lq_sld (hin 4 (by decide)) dL_law_902 ?_
  refine lq_aload_n (j := 1) dL_law_903 rfl rfl ?_
  refine lq_callR (x1 := xs (nI i + 1).toNatClampNeg) (x2 := xs (nI i + 2).toNatClampNeg) (x3 := xs (nI i + 3).toNatClampNeg) (x4 := xs (nI i + 4).toNatClampNeg) (st := []) rfl h231 h0 hk (Nat.le_of_ble_eq_true rfl) dL_law_904 (fun r M1 h1 => ?_)
  have key : ∀ (f : Int32) (M1 : pg_M), lw_I M1 G h → f = (if (sp_qrests (xs (nI i + 1).toNatClampNeg) (xs (nI i + 2).toNatClampNeg) (xs (nI i + 3).toNatClampNeg) (xs (nI i + 4).toNatClampNeg)).isSome then 0 else 1) → (∀ x, sp_qrests (xs (nI i + 1).toNatClampNeg) (xs (nI i + 2).toNatClampNeg) (xs (nI i + 3).toNatClampNeg) (xs (nI i + 4).toNatClampNeg) = some x → M1.2.1 231 0 = x.toInt64) → lq_At S Λ YL 0 907 (lw_ls i) [.int f] M1 (b, L, xs, k + 1, sl + 6) := by
    intro f M1 hI1 hf ho
    refine lq_istore dL_law_907 (by decide) rfl ?_
    refine lq_aload_n (j := 3) dL_law_909 rfl rfl ?_
    refine lq_aload_n (j := 5) dL_law_910 rfl rfl ?_
    refine lq_iload (j := 1) dL_law_911 rfl ?_
    refine lq_iconst (v := 1) dL_law_913 rfl ?_
    refine lq_iadd dL_law_914 ?_
    refine lq_sld (hin 1 (by decide)) dL_law_915 ?_
    refine lq_aload_n (j := 5) dL_law_916 rfl rfl ?_
    refine lq_iload (j := 1) dL_law_917 rfl ?_
    refine lq_iconst (v := 2) dL_law_919 rfl ?_
    refine lq_iadd dL_law_920 ?_
    refine lq_sld (hin 2 (by decide)) dL_law_921 ?_
    refine lq_aload_n (j := 5) dL_law_922 rfl rfl ?_
    refine lq_iload (j := 1) dL_law_923 rfl ?_
    refine lq_iconst (v := 3) dL_law_925 rfl ?_
    refine lq_iadd dL_law_926 ?_
    refine lq_sld (hin 3 (by decide)) dL_law_927 ?_
    refine lq_aload_n (j := 5) dL_law_928 rfl rfl ?_
    refine lq_iload (j := 1) dL_law_929 rfl ?_
    refine lq_iconst (v := 4) dL_law_931 rfl ?_
    refine lq_iadd dL_law_932 ?_
    refine lq_sld (hin 4 (by decide)) dL_law_933 ?_
    refine lq_callV (Y' := YX11_rests) (d' := 1) (As := [.int _, .int _, .int _, .int _]) (x := 207) (st := []) okX11_rests lkL_129 rfl h207 rfl (by decide) hk (Nat.le_of_ble_eq_true rfl) (rm_rests (d := 0) hX hI1.2.1) dL_law_934 (fun r M2 h2 => ?_)
    obtain ⟨v2, rfl, e2, e3, g2, f2⟩ := h2
    show lq_At S Λ YL 0 937 [(5, .int f), (4, .int (nI i)), (3, .ref 231), (2, .ref 207), (1, .ref 0), (0, .ref 1300)] [.int v2] M2 (b, L, xs, k + 1, sl + 6)
    have hI2 : lw_I M2 G (h + 1) := ⟨hI1.1.off f2, g2, hI1.2.2.more (Nat.le_succ h)⟩
    have fin : lq_At S Λ YL 0 967 [(6, .int v2), (5, .int f), (4, .int (nI i)), (3, .ref 231), (2, .ref 207), (1, .ref 0), (0, .ref 1300)] [] M2 (b, L, xs, k + 1, sl + 6) :=
      lq_goto (tgt := 1097) dL_law_967 rfl (lq_drop (ks := [2, 3, 4, 5, 6]) rfl (kk M2 G hI2))
    refine lq_istore dL_law_937 (by decide) rfl ?_
    refine lq_aload_n (j := 4) dL_law_939 rfl rfl ?_
    refine lq_callV (Y' := YX11_thrown) (d' := 0) (As := []) (x := 207) (st := []) okX11_thrown lkL_130 rfl h207 rfl (by decide) hk (Nat.le_of_ble_eq_true rfl) (rm_thrown hX) dL_law_940 (fun r M3 h3 => ?_)
    obtain ⟨v3, rfl, e4, rfl⟩ := h3
    show lq_At S Λ YL 0 943 [(6, .int v2), (5, .int f), (4, .int (nI i)), (3, .ref 231), (2, .ref 207), (1, .ref 0), (0, .ref 1300)] [.int v3] M3 (b, L, xs, k + 1, sl + 6)
    refine lq_iload (j := 1) dL_law_943 rfl ?_
    refine lq_icmp_eq (tgt := 950) dL_law_945 rfl (fun _ => ?_) (fun q => absurd (e4.trans (e2.trans hf.symm)) q)
    refine lq_iload (j := 1) dL_law_950 rfl ?_
    refine lq_if_ne (tgt := 967) dL_law_952 rfl (fun _ => fin) (fun q => ?_)
    refine lq_aload_n (j := 3) dL_law_955 rfl rfl ?_
    refine lq_iconst (v := 0) dL_law_956 rfl ?_
    refine lq_lald h231 (by unfold vp_in; decide) dL_law_957 ?_
    refine lq_iload (j := 0) dL_law_958 rfl ?_
    refine lq_i2l dL_law_960 rfl ?_
    refine lq_lcmp dL_law_961 ?_
    refine lq_if_eq (tgt := 967) dL_law_962 rfl (fun _ => fin) (fun z => absurd ?_ z)
    cases hq : sp_qrests (xs (nI i + 1).toNatClampNeg) (xs (nI i + 2).toNatClampNeg) (xs (nI i + 3).toNatClampNeg) (xs (nI i + 4).toNatClampNeg) with
    | none =>
      rw [hq] at hf
      rw [hf] at q
      exact absurd q (by decide)
    | some x =>
      have e5 : M3.2.1 231 0 = x.toInt64 := by rw [f2.2.1 231 (by decide)]; exact ho x hq
      show lg_cmp (M3.2.1 231 0) v2.toInt64 = 0
      rw [e5, e3 x hq]
      unfold lg_cmp
      simp
  unfold lr_P at h1
  cases hq : sp_qrests (xs (nI i + 1).toNatClampNeg) (xs (nI i + 2).toNatClampNeg) (xs (nI i + 3).toNatClampNeg) (xs (nI i + 4).toNatClampNeg) with
  | none =>
    rw [hq] at h1
    obtain ⟨rfl, rfl⟩ := h1
    exact key 1 M1 hI (by rw [hq]; rfl) (fun x hx => by rw [hq] at hx; cases hx)
  | some x =>
    rw [hq] at h1
    obtain ⟨rfl, rfl⟩ := h1
    refine key 0 _ ⟨hI.1.away (fun b _ => rfl) (fun b hb => ?_) rfl, hI.2.1.off (fun b _ hb => ⟨rfl, ?_⟩), hI.2.2⟩ (by rw [hq]; rfl) (fun y hy => ?_)
    · show (if b = 231 then _ else M.2.1 b) = M.2.1 b
      rw [if_neg (by omega)]
    · show (if b = 231 then _ else M.2.1 b) = M.2.1 b
      rw [if_neg (by omega)]
    · rw [hq] at hy
      cases hy
      simp only [pg_sj, if_true]
      unfold vp_updL
      simp
end LC3
