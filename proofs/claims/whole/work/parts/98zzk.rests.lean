/-! PegLaws.rests, whole -/
theorem rt_i1 : ∀ k : Nat, k < 10 → nI k + Int32.ofInt 1 = nI (k + 1) := by decide +kernel
theorem rt_i2 : ∀ k : Nat, k < 9 → ¬ (9 : Int32) ≤ nI k := by decide +kernel
theorem rt_i3 : ∀ k : Nat, k < 10 → ¬ nI k < 0 := by decide +kernel
theorem rt_b0 {x : Bool} (h : b2i x = 0) : x = false := by cases x; rfl; exact absurd h (by decide)
theorem rt_b1 {x : Bool} (h : ¬ b2i x = 0) : x = true := by cases x; exact absurd rfl h; rfl
theorem rt_hit {a b c w : Int32} {k : Nat} (h1 : sp_ris a b c k = true) (h2 : nI (fb_ct (sp_ris a b c) k) = w) : ∀ n, k < n → n ≤ 9 → sp_rf a b c w n = some k := by
  intro n
  induction n with
  | zero => intro h; omega
  | succ n ih =>
    intro h h9
    simp only [sp_rf]
    by_cases hm : sp_ris a b c n = true ∧ nI (fb_ct (sp_ris a b c) n) = w
    · rw [if_pos hm]
      have l1 := fb_ct_le (sp_ris a b c) n
      have l2 := fb_ct_le (sp_ris a b c) k
      have e1 : fb_ct (sp_ris a b c) n = fb_ct (sp_ris a b c) k := (nI_eq (by omega) (by omega)).mp (hm.2.trans h2.symm)
      rw [fb_ct_kth_one hm.1 h1 e1]
    · rw [if_neg hm]
      by_cases hk : k = n
      · subst hk
        exact absurd ⟨h1, h2⟩ hm
      · exact ih (by omega) (by omega)
section RTR
variable {S : pg_S} {Λ : pg_L} {M : pg_M} {a b c w : Int32}
theorem rt_27 {ls : List (Nat × Value)} : rt_At S Λ 27 ls [] M none := rt_thr (q := 1002) (tx := "no such worths or no such rest") (List.mem_of_getElem? (i := 2) rfl) dX10_rests_27 dX10_rests_30 dX10_rests_31 dX10_rests_34 dX10_rests_37
theorem rt_87 {ls : List (Nat × Value)} : rt_At S Λ 87 ls [] M none := rt_thr (q := 1003) (tx := "fewer rests") (List.mem_of_getElem? (i := 3) rfl) dX10_rests_87 dX10_rests_90 dX10_rests_91 dX10_rests_94 dX10_rests_97
abbrev rt_ls (a b c w k f : Int32) : List (Nat × Value) := [(6, .int k), (5, .int f), (0, .ref 0), (1, .int a), (2, .int b), (3, .int c), (4, .int w)]
theorem rt_44 (ha : ¬ a < 0) (hb : ¬ b < 0) (hc : ¬ c < 0) (hw : ¬ w < -1) : ∀ n k : Nat, n + k = 9 → sp_rf a b c w k = none → rt_At S Λ 44 (rt_ls a b c w (nI k) (nI (fb_ct (sp_ris a b c) k))) [] M (if w < 0 then some (nI (fb_ct (sp_ris a b c) 9)) else (sp_rf a b c w 9).map nI) := by
  intro n
  induction n with
  | zero =>
    intro k hk hn
    obtain rfl : k = 9 := by omega
    refine rt_iload (j := 0) dX10_rests_44 rfl ?_
    refine rt_bipush dX10_rests_46 rfl ?_
    refine rt_icmp_ge (tgt := 81) dX10_rests_48 rfl (fun _ => ?_) (fun h => absurd (by decide) h)
    refine rt_iload (j := 6) dX10_rests_81 rfl ?_
    refine rt_iconst dX10_rests_83 rfl ?_
    refine rt_icmp_eq (tgt := 98) dX10_rests_84 rfl (fun h => ?_) (fun h => ?_)
    · rw [if_pos (by rw [h]; decide)]
      refine rt_iload (j := 1) dX10_rests_98 rfl ?_
      exact rt_ret dX10_rests_100
    · have h0 : ¬ w < 0 := by
        intro q
        apply h
        have z0 : (0 : Int32).toInt = 0 := by decide
        have z1 : (-1 : Int32).toInt = -1 := by decide
        have q1 := Int32.lt_iff_toInt_lt.mp q
        have q2 := mt Int32.lt_iff_toInt_lt.mpr hw
        rw [← Int32.toInt_inj]
        show w.toInt = (-1 : Int32).toInt
        rw [z1]
        rw [z0] at q1
        rw [z1] at q2
        omega
      rw [if_neg h0, hn]
      exact rt_87
  | succ n ih =>
    intro k hk hn
    have hk9 : k < 9 := by omega
    have hct := fb_ct_le (sp_ris a b c) k
    refine rt_iload (j := 0) dX10_rests_44 rfl ?_
    refine rt_bipush dX10_rests_46 rfl ?_
    refine rt_icmp_ge (tgt := 81) dX10_rests_48 rfl (fun h => absurd h (rt_i2 k hk9)) (fun _ => ?_)
    refine rt_iload_n (j := 3) dX10_rests_51 rfl rfl ?_
    refine rt_iload_n (j := 4) dX10_rests_52 rfl rfl ?_
    refine rt_iload_n (j := 5) dX10_rests_53 rfl rfl ?_
    refine rt_iload (j := 0) dX10_rests_54 rfl ?_
    refine rt_callS (As := [.int a, .int b, .int c, .int (nI k)]) (st := []) (v := b2i (sp_ris a b c k)) okX10_isRest lkX10_268 rfl (d' := 1) (by omega) (by decide) (by rw [← rc_ra_ris ha hb hc hk9]; exact rc_isRest9 hk9) dX10_rests_56 ?_
    refine rt_if_eq (tgt := 75) dX10_rests_59 rfl (fun h => ?_) (fun h => ?_)
    · have hf := rt_b0 h
      have e1 : fb_ct (sp_ris a b c) (k + 1) = fb_ct (sp_ris a b c) k := by rw [fb_ct_succ, hf]; rfl
      refine rt_iinc (j := 0) dX10_rests_75 rfl (rt_i1 k (by omega)) (by omega) rfl ?_
      refine rt_goto (tgt := 44) dX10_rests_78 rfl ?_
      have h9 := ih (k + 1) (by omega) (by simp only [sp_rf]; rw [if_neg (fun q => by rw [hf] at q; cases q.1)]; exact hn)
      rw [e1] at h9
      exact h9
    · have hf := rt_b1 h
      have e1 : fb_ct (sp_ris a b c) (k + 1) = fb_ct (sp_ris a b c) k + 1 := by rw [fb_ct_succ, hf]; rfl
      refine rt_iload (j := 1) dX10_rests_62 rfl ?_
      refine rt_iload (j := 6) dX10_rests_64 rfl ?_
      refine rt_icmp_ne (tgt := 72) dX10_rests_66 rfl (fun q => ?_) (fun q => ?_)
      · refine rt_iinc (j := 1) dX10_rests_72 rfl (rt_i1 _ (by omega)) (by omega) rfl ?_
        refine rt_iinc (j := 1) dX10_rests_75 rfl (rt_i1 k (by omega)) (by omega) rfl ?_
        refine rt_goto (tgt := 44) dX10_rests_78 rfl ?_
        have h9 := ih (k + 1) (by omega) (by simp only [sp_rf]; rw [if_neg (fun z => q z.2)]; exact hn)
        rw [e1] at h9
        exact h9
      · rw [if_neg (by rw [← q]; exact rt_i3 _ (by omega)), rt_hit hf q 9 hk9 (Nat.le_refl _)]
        refine rt_iload (j := 0) dX10_rests_69 rfl ?_
        exact rt_ret dX10_rests_71
theorem rt_nn {x : Int32} (h : (sp_ix 10 x).isSome = true) : ¬ x < 0 := by
  have wa : decide (¬ x < 0 ∧ ¬ (9 : Int32) < x) = (sp_ix 10 x).isSome := sp_ix_win (n := 9) (by decide) rfl
  rw [← wa] at h
  exact (of_decide_eq_true h).1
theorem rt_rests : rt_At S Λ 0 [(0, .ref 0), (1, .int a), (2, .int b), (3, .int c), (4, .int w)] [] M (sp_qrests a b c w) := by
  have hno : sp_rmay a b c w = false → sp_qrests a b c w = none := fun h => by simp [sp_qrests, h]
  refine rt_iload_n (j := 1) dX10_rests_0 rfl rfl ?_
  refine rt_callS (As := [.int a]) (st := []) okX10_isWorth lkX10_258 rfl (d' := 0) (by omega) (by decide) rc_isWorth dX10_rests_1 ?_
  refine rt_if_eq (tgt := 27) dX10_rests_4 rfl (fun h => ?_) (fun h1 => ?_)
  · rw [hno (by simp [sp_rmay, rt_b0 h])]
    exact rt_27
  refine rt_iload_n (j := 2) dX10_rests_7 rfl rfl ?_
  refine rt_callS (As := [.int b]) (st := []) okX10_isWorth lkX10_258 rfl (d' := 0) (by omega) (by decide) rc_isWorth dX10_rests_8 ?_
  refine rt_if_eq (tgt := 27) dX10_rests_11 rfl (fun h => ?_) (fun h2 => ?_)
  · rw [hno (by simp [sp_rmay, rt_b0 h])]
    exact rt_27
  refine rt_iload_n (j := 3) dX10_rests_14 rfl rfl ?_
  refine rt_callS (As := [.int c]) (st := []) okX10_isWorth lkX10_258 rfl (d' := 0) (by omega) (by decide) rc_isWorth dX10_rests_15 ?_
  refine rt_if_eq (tgt := 27) dX10_rests_18 rfl (fun h => ?_) (fun h3 => ?_)
  · rw [hno (by simp [sp_rmay, rt_b0 h])]
    exact rt_27
  refine rt_iload (j := 4) dX10_rests_21 rfl ?_
  refine rt_iconst dX10_rests_23 rfl ?_
  refine rt_icmp_ge (tgt := 38) dX10_rests_24 rfl (fun h => ?_) (fun h => ?_)
  · have hw : ¬ w < -1 := Int32.not_lt.mpr h
    have hr : sp_rmay a b c w = true := by simp [sp_rmay, rt_b1 h1, rt_b1 h2, rt_b1 h3, hw]
    rw [show sp_qrests a b c w = (if w < 0 then some (nI (fb_ct (sp_ris a b c) 9)) else (sp_rf a b c w 9).map nI) by simp only [sp_qrests, hr, if_true]]
    refine rt_iconst dX10_rests_38 rfl ?_
    refine rt_istore dX10_rests_39 (by omega) rfl ?_
    refine rt_iconst dX10_rests_41 rfl ?_
    refine rt_istore dX10_rests_42 (by omega) rfl ?_
    exact rt_44 (rt_nn (rt_b1 h1)) (rt_nn (rt_b1 h2)) (rt_nn (rt_b1 h3)) hw 9 0 rfl rfl
  · rw [hno (by
      have : w < -1 := Int32.not_le.mp h
      simp [sp_rmay, this])]
    exact rt_27
end RTR
