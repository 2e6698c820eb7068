section LC2
variable {S : pg_S} {Λ : pg_L} {M : pg_M} {G : sp_G} {h i b L k sl : Nat} {xs : Nat → Int32} {fs0 fs1 : List pg_F}
theorem lc_13 (hF : pg_full Λ) (hX : pg_isX11 Λ) (h0 : Λ 0 = some (.inl (10, fs0))) (h207 : Λ 207 = some (.inl (11, fs1))) (hh : h < 2 ^ 20) (hk : k ≤ 601024 ∧ sl ≤ 7293033) (hin : lw_in i L) (hI : lw_I M G h) (kk : ∀ M2 G2, lw_I M2 G2 (h + 1) → lq_At S Λ YL 0 1097 (lw_ls i) [] M2 (b, L, xs, k + 1, sl + 6)) : lq_At S Λ YL 0 579 (lw_ls i) [] M (b, L, xs, k, sl) := by
  refine lq_aload_n (j := 3) dL_law_579 rfl rfl ?_
  refine lq_aload_n (j := 4) dL_law_580 rfl rfl ?_
  refine lq_iload (j := 0) dL_law_581 rfl ?_
  refine lq_iconst (v := 1) dL_law_583 rfl ?_
  refine lq_iadd dL_law_584 ?_
  refine lq_sld (hin 1 (by decide)) dL_law_585 ?_
  refine lq_callV (Y' := YX10_judged) (d' := 7) (As := [.int _]) (x := 0) (st := []) okX10_judged lkL_79 rfl h0 rfl (by decide) hk (Nat.le_of_ble_eq_true rfl) (rc_judged (d := 0) hF hI.1 hI.2.2) dL_law_586 (fun r M1 h1 => ?_)
  obtain ⟨v1, rfl, e1, g1, o1⟩ := h1
  have m1 := hI.2.1.out o1
  show lq_At S Λ YL 0 589 (lw_ls i) [.int v1] M1 (b, L, xs, k, sl)
  refine lq_aload_n (j := 2) dL_law_589 rfl rfl ?_
  refine lq_aload_n (j := 4) dL_law_590 rfl rfl ?_
  refine lq_iload (j := 0) dL_law_591 rfl ?_
  refine lq_iconst (v := 1) dL_law_593 rfl ?_
  refine lq_iadd dL_law_594 ?_
  refine lq_sld (hin 1 (by decide)) dL_law_595 ?_
  refine lq_callV (Y' := YX11_judged) (d' := 5) (As := [.int _]) (x := 207) (st := [.int v1]) okX11_judged lkL_82 rfl h207 rfl (by decide) hk (Nat.le_of_ble_eq_true rfl) (rm_judged (d := 0) hX m1 hI.2.2) dL_law_596 (fun r M2 h2 => ?_)
  obtain ⟨v2, rfl, e2, g2, f2⟩ := h2
  show lq_At S Λ YL 0 599 (lw_ls i) [.int v2, .int v1] M2 (b, L, xs, k, sl)
  refine lq_icmp_eq (tgt := 1097) dL_law_599 rfl (fun _ => ?_) (fun q => absurd (e1.trans e2.symm) q)
  exact lq_more (Nat.le_succ k) (Nat.le_add_right sl 6) (kk M2 _ ⟨g1.off f2, g2, hI.2.2.more (Nat.le_succ h)⟩)
theorem lc_14 (hF : pg_full Λ) (hX : pg_isX11 Λ) (h0 : Λ 0 = some (.inl (10, fs0))) (h207 : Λ 207 = some (.inl (11, fs1))) (hh : h < 2 ^ 20) (hk : k ≤ 601024 ∧ sl ≤ 7293033) (hin : lw_in i L) (hI : lw_I M G h) (kk : ∀ M2 G2, lw_I M2 G2 (h + 1) → lq_At S Λ YL 0 1097 (lw_ls i) [] M2 (b, L, xs, k + 1, sl + 6)) : lq_At S Λ YL 0 604 (lw_ls i) [] M (b, L, xs, k, sl) := by
  refine lq_aload_n (j := 3) dL_law_604 rfl rfl ?_
  refine lq_aload_n (j := 4) dL_law_605 rfl rfl ?_
  refine lq_iload (j := 0) dL_law_606 rfl ?_
  refine lq_iconst (v := 1) dL_law_608 rfl ?_
  refine lq_iadd dL_law_609 ?_
  refine lq_sld (hin 1 (by decide)) dL_law_610 ?_
  refine lq_callV (Y' := YX10_holds) (d' := 5) (As := [.int _]) (x := 0) (st := []) okX10_holds lkL_83 rfl h0 rfl (by decide) hk (Nat.le_of_ble_eq_true rfl) (rc_holds (d := 0) (by omega) hF hI.1 hI.2.2) dL_law_611 (fun r M1 h1 => ?_)
  obtain ⟨v1, rfl, e1, g1, o1⟩ := h1
  have m1 := hI.2.1.out o1
  show lq_At S Λ YL 0 614 (lw_ls i) [.int v1] M1 (b, L, xs, k, sl)
  refine lq_aload_n (j := 2) dL_law_614 rfl rfl ?_
  refine lq_aload_n (j := 4) dL_law_615 rfl rfl ?_
  refine lq_iload (j := 0) dL_law_616 rfl ?_
  refine lq_iconst (v := 1) dL_law_618 rfl ?_
  refine lq_iadd dL_law_619 ?_
  refine lq_sld (hin 1 (by decide)) dL_law_620 ?_
  refine lq_callV (Y' := YX11_holds) (d' := 5) (As := [.int _]) (x := 207) (st := [.int v1]) okX11_holds lkL_86 rfl h207 rfl (by decide) hk (Nat.le_of_ble_eq_true rfl) (rm_holds (d := 0) hX (by omega) m1 hI.2.2) dL_law_621 (fun r M2 h2 => ?_)
  obtain ⟨v2, rfl, e2, g2, f2⟩ := h2
  show lq_At S Λ YL 0 624 (lw_ls i) [.int v2, .int v1] M2 (b, L, xs, k, sl)
  refine lq_icmp_eq (tgt := 1097) dL_law_624 rfl (fun _ => ?_) (fun q => absurd (e1.trans e2.symm) q)
  exact lq_more (Nat.le_succ k) (Nat.le_add_right sl 6) (kk M2 _ ⟨g1.off f2, g2, hI.2.2.more (Nat.le_succ h)⟩)
theorem lc_15 (hF : pg_full Λ) (hX : pg_isX11 Λ) (h0 : Λ 0 = some (.inl (10, fs0))) (h207 : Λ 207 = some (.inl (11, fs1))) (hh : h < 2 ^ 20) (hk : k ≤ 601024 ∧ sl ≤ 7293033) (hin : lw_in i L) (hI : lw_I M G h) (kk : ∀ M2 G2, lw_I M2 G2 (h + 1) → lq_At S Λ YL 0 1097 (lw_ls i) [] M2 (b, L, xs, k + 1, sl + 6)) : lq_At S Λ YL 0 629 (lw_ls i) [] M (b, L, xs, k, sl) := by
  refine lq_aload_n (j := 3) dL_law_629 rfl rfl ?_
  refine lq_callV (Y' := YX10_clashes) (d' := 3) (As := []) (x := 0) (st := []) okX10_clashes lkL_87 rfl h0 rfl (by decide) hk (Nat.le_of_ble_eq_true rfl) (rc_clashes (d := 0) hF hI.1 hI.2.2) dL_law_630 (fun r M1 h1 => ?_)
  obtain ⟨v1, rfl, e1, g1, o1⟩ := h1
  have m1 := hI.2.1.out o1
  show lq_At S Λ YL 0 633 (lw_ls i) [.int v1] M1 (b, L, xs, k, sl)
  refine lq_aload_n (j := 2) dL_law_633 rfl rfl ?_
  refine lq_callV (Y' := YX11_clashes) (d' := 4) (As := []) (x := 207) (st := [.int v1]) okX11_clashes lkL_90 rfl h207 rfl (by decide) hk (Nat.le_of_ble_eq_true rfl) (rm_clashes (d := 0) hX m1 hI.2.2) dL_law_634 (fun r M2 h2 => ?_)
  obtain ⟨v2, rfl, e2, g2, f2⟩ := h2
  show lq_At S Λ YL 0 637 (lw_ls i) [.int v2, .int v1] M2 (b, L, xs, k, sl)
  refine lq_icmp_eq (tgt := 1097) dL_law_637 rfl (fun _ => ?_) (fun q => absurd (e1.trans e2.symm) q)
  exact lq_more (Nat.le_succ k) (Nat.le_add_right sl 6) (kk M2 _ ⟨g1.off f2, g2, hI.2.2.more (Nat.le_succ h)⟩)
theorem lc_16 (hF : pg_full Λ) (hX : pg_isX11 Λ) (h0 : Λ 0 = some (.inl (10, fs0))) (h207 : Λ 207 = some (.inl (11, fs1))) (hh : h < 2 ^ 20) (hk : k ≤ 601024 ∧ sl ≤ 7293033) (hin : lw_in i L) (hI : lw_I M G h) (kk : ∀ M2 G2, lw_I M2 G2 (h + 1) → lq_At S Λ YL 0 1097 (lw_ls i) [] M2 (b, L, xs, k + 1, sl + 6)) : lq_At S Λ YL 0 642 (lw_ls i) [] M (b, L, xs, k, sl) := by
  refine lq_aload_n (j := 3) dL_law_642 rfl rfl ?_
  refine lq_aload_n (j := 4) dL_law_643 rfl rfl ?_
  refine lq_iload (j := 0) dL_law_644 rfl ?_
  refine lq_iconst (v := 1) dL_law_646 rfl ?_
  refine lq_iadd dL_law_647 ?_
  refine lq_sld (hin 1 (by decide)) dL_law_648 ?_
  refine lq_callV (Y' := YX10_mend) (d' := 3) (As := [.int _]) (x := 0) (st := []) okX10_mend lkL_91 rfl h0 rfl (by decide) hk (Nat.le_of_ble_eq_true rfl) (rc_mend (d := 0) hF hI.1 hI.2.2) dL_law_649 (fun r M1 h1 => ?_)
  obtain ⟨v1, rfl, e1, g1, o1⟩ := h1
  have m1 := hI.2.1.out o1
  show lq_At S Λ YL 0 652 (lw_ls i) [.int v1] M1 (b, L, xs, k, sl)
  refine lq_aload_n (j := 2) dL_law_652 rfl rfl ?_
  refine lq_aload_n (j := 4) dL_law_653 rfl rfl ?_
  refine lq_iload (j := 0) dL_law_654 rfl ?_
  refine lq_iconst (v := 1) dL_law_656 rfl ?_
  refine lq_iadd dL_law_657 ?_
  refine lq_sld (hin 1 (by decide)) dL_law_658 ?_
  refine lq_callV (Y' := YX11_mend) (d' := 4) (As := [.int _]) (x := 207) (st := [.int v1]) okX11_mend lkL_94 rfl h207 rfl (by decide) hk (Nat.le_of_ble_eq_true rfl) (rm_mend (d := 0) hX m1 hI.2.2) dL_law_659 (fun r M2 h2 => ?_)
  obtain ⟨v2, rfl, e2, g2, f2⟩ := h2
  show lq_At S Λ YL 0 662 (lw_ls i) [.int v2, .int v1] M2 (b, L, xs, k, sl)
  refine lq_icmp_eq (tgt := 1097) dL_law_662 rfl (fun _ => ?_) (fun q => absurd (e1.trans e2.symm) q)
  exact lq_more (Nat.le_succ k) (Nat.le_add_right sl 6) (kk M2 _ ⟨g1.off f2, g2, hI.2.2.more (Nat.le_succ h)⟩)
theorem lc_17 (hF : pg_full Λ) (hX : pg_isX11 Λ) (h0 : Λ 0 = some (.inl (10, fs0))) (h207 : Λ 207 = some (.inl (11, fs1))) (hh : h < 2 ^ 20) (hk : k ≤ 601024 ∧ sl ≤ 7293033) (hin : lw_in i L) (hI : lw_I M G h) (kk : ∀ M2 G2, lw_I M2 G2 (h + 1) → lq_At S Λ YL 0 1097 (lw_ls i) [] M2 (b, L, xs, k + 1, sl + 6)) : lq_At S Λ YL 0 667 (lw_ls i) [] M (b, L, xs, k, sl) := by
  refine lq_aload_n (j := 3) dL_law_667 rfl rfl ?_
  refine lq_aload_n (j := 4) dL_law_668 rfl rfl ?_
  refine lq_iload (j := 0) dL_law_669 rfl ?_
  refine lq_iconst (v := 1) dL_law_671 rfl ?_
  refine lq_iadd dL_law_672 ?_
  refine lq_sld (hin 1 (by decide)) dL_law_673 ?_
  refine lq_aload_n (j := 4) dL_law_674 rfl rfl ?_
  refine lq_iload (j := 0) dL_law_675 rfl ?_
  refine lq_iconst (v := 2) dL_law_677 rfl ?_
  refine lq_iadd dL_law_678 ?_
  refine lq_sld (hin 2 (by decide)) dL_law_679 ?_
  refine lq_callV (Y' := YX10_fill) (d' := 6) (As := [.int _, .int _]) (x := 0) (st := []) okX10_fill lkL_95 rfl h0 rfl (by decide) hk (Nat.le_of_ble_eq_true rfl) (rc_fill (d := 0) (by omega) hF hI.1 hI.2.2) dL_law_680 (fun r M1 h1 => ?_)
  obtain ⟨v1, rfl, e1, g1, o1⟩ := h1
  have m1 := hI.2.1.out o1
  show lq_At S Λ YL 0 683 (lw_ls i) [.int v1] M1 (b, L, xs, k, sl)
  refine lq_aload_n (j := 2) dL_law_683 rfl rfl ?_
  refine lq_aload_n (j := 4) dL_law_684 rfl rfl ?_
  refine lq_iload (j := 0) dL_law_685 rfl ?_
  refine lq_iconst (v := 1) dL_law_687 rfl ?_
  refine lq_iadd dL_law_688 ?_
  refine lq_sld (hin 1 (by decide)) dL_law_689 ?_
  refine lq_aload_n (j := 4) dL_law_690 rfl rfl ?_
  refine lq_iload (j := 0) dL_law_691 rfl ?_
  refine lq_iconst (v := 2) dL_law_693 rfl ?_
  refine lq_iadd dL_law_694 ?_
  refine lq_sld (hin 2 (by decide)) dL_law_695 ?_
  refine lq_callV (Y' := YX11_fill) (d' := 12) (As := [.int _, .int _]) (x := 207) (st := [.int v1]) okX11_fill lkL_98 rfl h207 rfl (by decide) hk (Nat.le_of_ble_eq_true rfl) (rm_fill (d := 0) (by omega) hX m1 hI.2.2) dL_law_696 (fun r M2 h2 => ?_)
  obtain ⟨v2, rfl, e2, g2, f2⟩ := h2
  show lq_At S Λ YL 0 699 (lw_ls i) [.int v2, .int v1] M2 (b, L, xs, k, sl)
  refine lq_icmp_eq (tgt := 1097) dL_law_699 rfl (fun _ => ?_) (fun q => absurd (e1.trans e2.symm) q)
  exact lq_more (Nat.le_succ k) (Nat.le_add_right sl 6) (kk M2 _ ⟨g1.off f2, g2, hI.2.2.more (Nat.le_succ h)⟩)
theorem lc_18 (hF : pg_full Λ) (hX : pg_isX11 Λ) (h0 : Λ 0 = some (.inl (10, fs0))) (h207 : Λ 207 = some (.inl (11, fs1))) (hh : h < 2 ^ 20) (hk : k ≤ 601024 ∧ sl ≤ 7293033) (hin : lw_in i L) (hI : lw_I M G h) (kk : ∀ M2 G2, lw_I M2 G2 (h + 1) → lq_At S Λ YL 0 1097 (lw_ls i) [] M2 (b, L, xs, k + 1, sl + 6)) : lq_At S Λ YL 0 704 (lw_ls i) [] M (b, L, xs, k, sl) := by
  refine lq_aload_n (j := 3) dL_law_704 rfl rfl ?_
  refine lq_aload_n (j := 4) dL_law_705 rfl rfl ?_
  refine lq_iload (j := 0) dL_law_706 rfl ?_
  refine lq_iconst (v := 1) dL_law_708 rfl ?_
  refine lq_iadd dL_law_709 ?_
  refine lq_sld (hin 1 (by decide)) dL_law_710 ?_
  refine lq_aload_n (j := 4) dL_law_711 rfl rfl ?_
  refine lq_iload (j := 0) dL_law_712 rfl ?_
  refine lq_iconst (v := 2) dL_law_714 rfl ?_
  refine lq_iadd dL_law_715 ?_
  refine lq_sld (hin 2 (by decide)) dL_law_716 ?_
  refine lq_callV (Y' := YX10_odds) (d' := 5) (As := [.int _, .int _]) (x := 0) (st := []) okX10_odds lkL_99 rfl h0 rfl (by decide) hk (Nat.le_of_ble_eq_true rfl) (rc_odds (d := 0) (by omega) hF hI.1 hI.2.2) dL_law_717 (fun r M1 h1 => ?_)
  obtain ⟨v1, rfl, e1, g1, o1⟩ := h1
  have m1 := hI.2.1.out o1
  show lq_At S Λ YL 0 720 (lw_ls i) [.int v1] M1 (b, L, xs, k, sl)
  refine lq_aload_n (j := 2) dL_law_720 rfl rfl ?_
  refine lq_aload_n (j := 4) dL_law_721 rfl rfl ?_
  refine lq_iload (j := 0) dL_law_722 rfl ?_
  refine lq_iconst (v := 1) dL_law_724 rfl ?_
  refine lq_iadd dL_law_725 ?_
  refine lq_sld (hin 1 (by decide)) dL_law_726 ?_
  refine lq_aload_n (j := 4) dL_law_727 rfl rfl ?_
  refine lq_iload (j := 0) dL_law_728 rfl ?_
  refine lq_iconst (v := 2) dL_law_730 rfl ?_
  refine lq_iadd dL_law_731 ?_
  refine lq_sld (hin 2 (by decide)) dL_law_732 ?_
  refine lq_callV (Y' := YX11_odds) (d' := 20) (As := [.int _, .int _]) (x := 207) (st := [.int v1]) okX11_odds lkL_102 rfl h207 rfl (by decide) hk (Nat.le_of_ble_eq_true rfl) (rm_odds (d := 0) (by omega) hX m1 hI.2.2) dL_law_733 (fun r M2 h2 => ?_)
  obtain ⟨v2, rfl, e2, g2, f2⟩ := h2
  show lq_At S Λ YL 0 736 (lw_ls i) [.int v2, .int v1] M2 (b, L, xs, k, sl)
  refine lq_icmp_eq (tgt := 1097) dL_law_736 rfl (fun _ => ?_) (fun q => absurd (e1.trans e2.symm) q)
  exact lq_more (Nat.le_succ k) (Nat.le_add_right sl 6) (kk M2 _ ⟨g1.off f2, g2, hI.2.2.more (Nat.le_succ h)⟩)
theorem lc_19 (hF : pg_full Λ) (hX : pg_isX11 Λ) (h0 : Λ 0 = some (.inl (10, fs0))) (h207 : Λ 207 = some (.inl (11, fs1))) (hh : h < 2 ^ 20) (hk : k ≤ 601024 ∧ sl ≤ 7293033) (hin : lw_in i L) (hI : lw_I M G h) (kk : ∀ M2 G2, lw_I M2 G2 (h + 1) → lq_At S Λ YL 0 1097 (lw_ls i) [] M2 (b, L, xs, k + 1, sl + 6)) : lq_At S Λ YL 0 741 (lw_ls i) [] M (b, L, xs, k, sl) := by
  refine lq_aload_n (j := 3) dL_law_741 rfl rfl ?_
  refine lq_aload_n (j := 4) dL_law_742 rfl rfl ?_
  refine lq_iload (j := 0) dL_law_743 rfl ?_
  refine lq_iconst (v := 1) dL_law_745 rfl ?_
  refine lq_iadd dL_law_746 ?_
  refine lq_sld (hin 1 (by decide)) dL_law_747 ?_
  refine lq_callV (Y' := YX10_dry) (d' := 5) (As := [.int _]) (x := 0) (st := []) okX10_dry lkL_103 rfl h0 rfl (by decide) hk (Nat.le_of_ble_eq_true rfl) (rc_dry (d := 0) (by omega) hF hI.1 hI.2.2) dL_law_748 (fun r M1 h1 => ?_)
  obtain ⟨v1, rfl, e1, g1, o1⟩ := h1
  have m1 := hI.2.1.out o1
  show lq_At S Λ YL 0 751 (lw_ls i) [.int v1] M1 (b, L, xs, k, sl)
  refine lq_aload_n (j := 2) dL_law_751 rfl rfl ?_
  refine lq_aload_n (j := 4) dL_law_752 rfl rfl ?_
  refine lq_iload (j := 0) dL_law_753 rfl ?_
  refine lq_iconst (v := 1) dL_law_755 rfl ?_
  refine lq_iadd dL_law_756 ?_
  refine lq_sld (hin 1 (by decide)) dL_law_757 ?_
  refine lq_callV (Y' := YX11_dry) (d' := 10) (As := [.int _]) (x := 207) (st := [.int v1]) okX11_dry lkL_106 rfl h207 rfl (by decide) hk (Nat.le_of_ble_eq_true rfl) (rm_dry (d := 0) (by omega) hX m1 hI.2.2) dL_law_758 (fun r M2 h2 => ?_)
  obtain ⟨v2, rfl, e2, g2, f2⟩ := h2
  show lq_At S Λ YL 0 761 (lw_ls i) [.int v2, .int v1] M2 (b, L, xs, k, sl)
  refine lq_icmp_eq (tgt := 1097) dL_law_761 rfl (fun _ => ?_) (fun q => absurd (e1.trans e2.symm) q)
  exact lq_more (Nat.le_succ k) (Nat.le_add_right sl 6) (kk M2 _ ⟨g1.off f2, g2, hI.2.2.more (Nat.le_succ h)⟩)
theorem lc_20 (hF : pg_full Λ) (hX : pg_isX11 Λ) (h0 : Λ 0 = some (.inl (10, fs0))) (h207 : Λ 207 = some (.inl (11, fs1))) (hh : h < 2 ^ 20) (hk : k ≤ 601024 ∧ sl ≤ 7293033) (hin : lw_in i L) (hI : lw_I M G h) (kk : ∀ M2 G2, lw_I M2 G2 (h + 1) → lq_At S Λ YL 0 1097 (lw_ls i) [] M2 (b, L, xs, k + 1, sl + 6)) : lq_At S Λ YL 0 766 (lw_ls i) [] M (b, L, xs, k, sl) := by
  refine lq_aload_n (j := 3) dL_law_766 rfl rfl ?_
  refine lq_aload_n (j := 4) dL_law_767 rfl rfl ?_
  refine lq_iload (j := 0) dL_law_768 rfl ?_
  refine lq_iconst (v := 1) dL_law_770 rfl ?_
  refine lq_iadd dL_law_771 ?_
  refine lq_sld (hin 1 (by decide)) dL_law_772 ?_
  refine lq_aload_n (j := 4) dL_law_773 rfl rfl ?_
  refine lq_iload (j := 0) dL_law_774 rfl ?_
  refine lq_iconst (v := 2) dL_law_776 rfl ?_
  refine lq_iadd dL_law_777 ?_
  refine lq_sld (hin 2 (by decide)) dL_law_778 ?_
  refine lq_aload_n (j := 4) dL_law_779 rfl rfl ?_
  refine lq_iload (j := 0) dL_law_780 rfl ?_
  refine lq_iconst (v := 3) dL_law_782 rfl ?_
  refine lq_iadd dL_law_783 ?_
  refine lq_sld (hin 3 (by decide)) dL_law_784 ?_
  refine lq_callV (Y' := YX10_feel) (d' := 1) (As := [.int _, .int _, .int _]) (x := 0) (st := []) okX10_feel lkL_107 rfl h0 rfl (by decide) hk (Nat.le_of_ble_eq_true rfl) (rc_feel (d := 0) hF hI.1 hI.2.2) dL_law_785 (fun r M1 h1 => ?_)
  obtain ⟨v1, rfl, e1, g1, o1⟩ := h1
  have m1 := hI.2.1.out o1
  show lq_At S Λ YL 0 788 (lw_ls i) [.int v1] M1 (b, L, xs, k, sl)
  refine lq_aload_n (j := 2) dL_law_788 rfl rfl ?_
  refine lq_aload_n (j := 4) dL_law_789 rfl rfl ?_
  refine lq_iload (j := 0) dL_law_790 rfl ?_
  refine lq_iconst (v := 1) dL_law_792 rfl ?_
  refine lq_iadd dL_law_793 ?_
  refine lq_sld (hin 1 (by decide)) dL_law_794 ?_
  refine lq_aload_n (j := 4) dL_law_795 rfl rfl ?_
  refine lq_iload (j := 0) dL_law_796 rfl ?_
  refine lq_iconst (v := 2) dL_law_798 rfl ?_
  refine lq_iadd dL_law_799 ?_
  refine lq_sld (hin 2 (by decide)) dL_law_800 ?_
  refine lq_aload_n (j := 4) dL_law_801 rfl rfl ?_
  refine lq_iload (j := 0) dL_law_802 rfl ?_
  refine lq_iconst (v := 3) dL_law_804 rfl ?_
  refine lq_iadd dL_law_805 ?_
  refine lq_sld (hin 3 (by decide)) dL_law_806 ?_
  refine lq_callV (Y' := YX11_feel) (d' := 2) (As := [.int _, .int _, .int _]) (x := 207) (st := [.int v1]) okX11_feel lkL_111 rfl h207 rfl (by decide) hk (Nat.le_of_ble_eq_true rfl) (rm_feel (d := 0) hX m1 hI.2.2) dL_law_807 (fun r M2 h2 => ?_)
  obtain ⟨v2, rfl, e2, g2, f2⟩ := h2
  show lq_At S Λ YL 0 810 (lw_ls i) [.int v2, .int v1] M2 (b, L, xs, k, sl)
  refine lq_icmp_eq (tgt := 1097) dL_law_810 rfl (fun _ => ?_) (fun q => absurd (e1.trans e2.symm) q)
  exact lq_more (Nat.le_succ k) (Nat.le_add_right sl 6) (kk M2 _ ⟨g1.off f2, g2, hI.2.2.qfeel.more (Nat.le_succ h)⟩)
theorem lc_21 (hF : pg_full Λ) (hX : pg_isX11 Λ) (h0 : Λ 0 = some (.inl (10, fs0))) (h207 : Λ 207 = some (.inl (11, fs1))) (hh : h < 2 ^ 20) (hk : k ≤ 601024 ∧ sl ≤ 7293033) (hin : lw_in i L) (hI : lw_I M G h) (kk : ∀ M2 G2, lw_I M2 G2 (h + 1) → lq_At S Λ YL 0 1097 (lw_ls i) [] M2 (b, L, xs, k + 1, sl + 6)) : lq_At S Λ YL 0 815 (lw_ls i) [] M (b, L, xs, k, sl) := by
  refine lq_aload_n (j := 3) dL_law_815 rfl rfl ?_
  refine lq_callV (Y' := YX10_starts) (d' := 5) (As := []) (x := 0) (st := []) okX10_starts lkL_112 rfl h0 rfl (by decide) hk (Nat.le_of_ble_eq_true rfl) (rc_starts (d := 0) hF hI.1 hI.2.2) dL_law_816 (fun r M1 h1 => ?_)
  obtain ⟨v1, rfl, e1, g1, o1⟩ := h1
  have m1 := hI.2.1.out o1
  show lq_At S Λ YL 0 819 (lw_ls i) [.int v1] M1 (b, L, xs, k, sl)
  refine lq_aload_n (j := 2) dL_law_819 rfl rfl ?_
  refine lq_callV (Y' := YX11_starts_) (d' := 5) (As := []) (x := 207) (st := [.int v1]) okX11_starts_ lkL_115 rfl h207 rfl (by decide) hk (Nat.le_of_ble_eq_true rfl) (rm_starts' (d := 0) hX m1 hI.2.2) dL_law_820 (fun r M2 h2 => ?_)
  obtain ⟨v2, rfl, e2, g2, f2⟩ := h2
  show lq_At S Λ YL 0 823 (lw_ls i) [.int v2, .int v1] M2 (b, L, xs, k, sl)
  refine lq_icmp_eq (tgt := 1097) dL_law_823 rfl (fun _ => ?_) (fun q => absurd (e1.trans e2.symm) q)
  exact lq_more (Nat.le_succ k) (Nat.le_add_right sl 6) (kk M2 _ ⟨g1.off f2, g2, hI.2.2.more (Nat.le_succ h)⟩)
theorem lc_22 (hF : pg_full Λ) (hX : pg_isX11 Λ) (h0 : Λ 0 = some (.inl (10, fs0))) (h207 : Λ 207 = some (.inl (11, fs1))) (hh : h < 2 ^ 20) (hk : k ≤ 601024 ∧ sl ≤ 7293033) (hin : lw_in i L) (hI : lw_I M G h) (kk : ∀ M2 G2, lw_I M2 G2 (h + 1) → lq_At S Λ YL 0 1097 (lw_ls i) [] M2 (b, L, xs, k + 1, sl + 6)) : lq_At S Λ YL 0 828 (lw_ls i) [] M (b, L, xs, k, sl) := by
  refine lq_aload_n (j := 3) dL_law_828 rfl rfl ?_
  refine lq_aload_n (j := 4) dL_law_829 rfl rfl ?_
  refine lq_iload (j := 0) dL_law_830 rfl ?_
  refine lq_iconst (v := 1) dL_law_832 rfl ?_
  refine lq_iadd dL_law_833 ?_
  refine lq_sld (hin 1 (by decide)) dL_law_834 ?_
  refine lq_callV (Y' := YX10_ask) (d' := 6) (As := [.int _]) (x := 0) (st := []) okX10_ask lkL_116 rfl h0 rfl (by decide) hk (Nat.le_of_ble_eq_true rfl) (rc_ask (d := 0) hF hI.1 hI.2.2) dL_law_835 (fun r M1 h1 => ?_)
  obtain ⟨v1, rfl, e1, g1, o1⟩ := h1
  have m1 := hI.2.1.out o1
  show lq_At S Λ YL 0 838 (lw_ls i) [.int v1] M1 (b, L, xs, k, sl)
  refine lq_aload_n (j := 2) dL_law_838 rfl rfl ?_
  refine lq_aload_n (j := 4) dL_law_839 rfl rfl ?_
  refine lq_iload (j := 0) dL_law_840 rfl ?_
  refine lq_iconst (v := 1) dL_law_842 rfl ?_
  refine lq_iadd dL_law_843 ?_
  refine lq_sld (hin 1 (by decide)) dL_law_844 ?_
  refine lq_callV (Y' := YX11_ask) (d' := 5) (As := [.int _]) (x := 207) (st := [.int v1]) okX11_ask lkL_119 rfl h207 rfl (by decide) hk (Nat.le_of_ble_eq_true rfl) (rm_ask (d := 0) hX m1 hI.2.2) dL_law_845 (fun r M2 h2 => ?_)
  obtain ⟨v2, rfl, e2, g2, f2⟩ := h2
  show lq_At S Λ YL 0 848 (lw_ls i) [.int v2, .int v1] M2 (b, L, xs, k, sl)
  refine lq_icmp_eq (tgt := 1097) dL_law_848 rfl (fun _ => ?_) (fun q => absurd (e1.trans e2.symm) q)
  exact lq_more (Nat.le_succ k) (Nat.le_add_right sl 6) (kk M2 _ ⟨g1.off f2, g2, hI.2.2.more (Nat.le_succ h)⟩)
theorem lc_23 (hF : pg_full Λ) (hX : pg_isX11 Λ) (h0 : Λ 0 = some (.inl (10, fs0))) (h207 : Λ 207 = some (.inl (11, fs1))) (hh : h < 2 ^ 20) (hk : k ≤ 601024 ∧ sl ≤ 7293033) (hin : lw_in i L) (hI : lw_I M G h) (kk : ∀ M2 G2, lw_I M2 G2 (h + 1) → lq_At S Λ YL 0 1097 (lw_ls i) [] M2 (b, L, xs, k + 1, sl + 6)) : lq_At S Λ YL 0 853 (lw_ls i) [] M (b, L, xs, k, sl) := by
  refine lq_aload_n (j := 3) dL_law_853 rfl rfl ?_
  refine lq_aload_n (j := 4) dL_law_854 rfl rfl ?_
  refine lq_iload (j := 0) dL_law_855 rfl ?_
  refine lq_iconst (v := 1) dL_law_857 rfl ?_
  refine lq_iadd dL_law_858 ?_
  refine lq_sld (hin 1 (by decide)) dL_law_859 ?_
  refine lq_callV (Y' := YX10_change) (d' := 6) (As := [.int _]) (x := 0) (st := []) okX10_change lkL_120 rfl h0 rfl (by decide) hk (Nat.le_of_ble_eq_true rfl) (rc_change (d := 0) (by omega) hF hI.1 hI.2.2) dL_law_860 (fun r M1 h1 => ?_)
  obtain ⟨v1, rfl, e1, g1, o1⟩ := h1
  have m1 := hI.2.1.out o1
  show lq_At S Λ YL 0 863 (lw_ls i) [.int v1] M1 (b, L, xs, k, sl)
  refine lq_aload_n (j := 2) dL_law_863 rfl rfl ?_
  refine lq_aload_n (j := 4) dL_law_864 rfl rfl ?_
  refine lq_iload (j := 0) dL_law_865 rfl ?_
  refine lq_iconst (v := 1) dL_law_867 rfl ?_
  refine lq_iadd dL_law_868 ?_
  refine lq_sld (hin 1 (by decide)) dL_law_869 ?_
  refine lq_callV (Y' := YX11_change) (d' := 6) (As := [.int _]) (x := 207) (st := [.int v1]) okX11_change lkL_123 rfl h207 rfl (by decide) hk (Nat.le_of_ble_eq_true rfl) (rm_change (d := 0) (by omega) hX m1 hI.2.2) dL_law_870 (fun r M2 h2 => ?_)
  obtain ⟨v2, rfl, e2, g2, f2⟩ := h2
  show lq_At S Λ YL 0 873 (lw_ls i) [.int v2, .int v1] M2 (b, L, xs, k, sl)
  refine lq_icmp_eq (tgt := 1097) dL_law_873 rfl (fun _ => ?_) (fun q => absurd (e1.trans e2.symm) q)
  exact lq_more (Nat.le_succ k) (Nat.le_add_right sl 6) (kk M2 _ ⟨g1.off f2, g2, hI.2.2.more (Nat.le_succ h)⟩)
theorem lc_25 (hF : pg_full Λ) (hX : pg_isX11 Λ) (h0 : Λ 0 = some (.inl (10, fs0))) (h207 : Λ 207 = some (.inl (11, fs1))) (hh : h < 2 ^ 20) (hk : k ≤ 601024 ∧ sl ≤ 7293033) (hin : lw_in i L) (hI : lw_I M G h) (kk : ∀ M2 G2, lw_I M2 G2 (h + 1) → lq_At S Λ YL 0 1097 (lw_ls i) [] M2 (b, L, xs, k + 1, sl + 6)) : lq_At S Λ YL 0 970 (lw_ls i) [] M (b, L, xs, k, sl) := by
  refine lq_aload_n (j := 3) dL_law_970 rfl rfl ?_
  refine lq_aload_n (j := 4) dL_law_971 rfl rfl ?_
  refine lq_iload (j := 0) dL_law_972 rfl ?_
  refine lq_iconst (v := 1) dL_law_974 rfl ?_
  refine lq_iadd dL_law_975 ?_
  refine lq_sld (hin 1 (by decide)) dL_law_976 ?_
  refine lq_aload_n (j := 4) dL_law_977 rfl rfl ?_
  refine lq_iload (j := 0) dL_law_978 rfl ?_
  refine lq_iconst (v := 2) dL_law_980 rfl ?_
  refine lq_iadd dL_law_981 ?_
  refine lq_sld (hin 2 (by decide)) dL_law_982 ?_
  refine lq_aload_n (j := 4) dL_law_983 rfl rfl ?_
  refine lq_iload (j := 0) dL_law_984 rfl ?_
  refine lq_iconst (v := 3) dL_law_986 rfl ?_
  refine lq_iadd dL_law_987 ?_
  refine lq_sld (hin 3 (by decide)) dL_law_988 ?_
  refine lq_callV (Y' := YX10_decades) (d' := 6) (As := [.int _, .int _, .int _]) (x := 0) (st := []) okX10_decades lkL_133 rfl h0 rfl (by decide) hk (Nat.le_of_ble_eq_true rfl) (rc_decades (d := 0) (by omega) hF hI.1 hI.2.2) dL_law_989 (fun r M1 h1 => ?_)
  obtain ⟨v1, rfl, e1, g1, o1⟩ := h1
  have m1 := hI.2.1.out o1
  show lq_At S Λ YL 0 992 (lw_ls i) [.int v1] M1 (b, L, xs, k, sl)
  refine lq_aload_n (j := 2) dL_law_992 rfl rfl ?_
  refine lq_aload_n (j := 4) dL_law_993 rfl rfl ?_
  refine lq_iload (j := 0) dL_law_994 rfl ?_
  refine lq_iconst (v := 1) dL_law_996 rfl ?_
  refine lq_iadd dL_law_997 ?_
  refine lq_sld (hin 1 (by decide)) dL_law_998 ?_
  refine lq_aload_n (j := 4) dL_law_999 rfl rfl ?_
  refine lq_iload (j := 0) dL_law_1000 rfl ?_
  refine lq_iconst (v := 2) dL_law_1002 rfl ?_
  refine lq_iadd dL_law_1003 ?_
  refine lq_sld (hin 2 (by decide)) dL_law_1004 ?_
  refine lq_aload_n (j := 4) dL_law_1005 rfl rfl ?_
  refine lq_iload (j := 0) dL_law_1006 rfl ?_
  refine lq_iconst (v := 3) dL_law_1008 rfl ?_
  refine lq_iadd dL_law_1009 ?_
  refine lq_sld (hin 3 (by decide)) dL_law_1010 ?_
  refine lq_callV (Y' := YX11_decades) (d' := 5) (As := [.int _, .int _, .int _]) (x := 207) (st := [.int v1]) okX11_decades lkL_137 rfl h207 rfl (by decide) hk (Nat.le_of_ble_eq_true rfl) (rm_decades (d := 0) (by omega) hX m1 hI.2.2) dL_law_1011 (fun r M2 h2 => ?_)
  obtain ⟨v2, rfl, e2, g2, f2⟩ := h2
  show lq_At S Λ YL 0 1014 (lw_ls i) [.int v2, .int v1] M2 (b, L, xs, k, sl)
  refine lq_icmp_eq (tgt := 1097) dL_law_1014 rfl (fun _ => ?_) (fun q => absurd (e1.trans e2.symm) q)
  exact lq_more (Nat.le_succ k) (Nat.le_add_right sl 6) (kk M2 _ ⟨g1.off f2, g2, hI.2.2.more (Nat.le_succ h)⟩)
theorem lc_27 (hF : pg_full Λ) (hX : pg_isX11 Λ) (h0 : Λ 0 = some (.inl (10, fs0))) (h207 : Λ 207 = some (.inl (11, fs1))) (hh : h < 2 ^ 20) (hk : k ≤ 601024 ∧ sl ≤ 7293033) (hin : lw_in i L) (hI : lw_I M G h) (kk : ∀ M2 G2, lw_I M2 G2 (h + 1) → lq_At S Λ YL 0 1097 (lw_ls i) [] M2 (b, L, xs, k + 1, sl + 6)) : lq_At S Λ YL 0 1072 (lw_ls i) [] M (b, L, xs, k, sl) := by
  refine lq_aload_n (j := 3) dL_law_1072 rfl rfl ?_
  refine lq_aload_n (j := 4) dL_law_1073 rfl rfl ?_
  refine lq_iload (j := 0) dL_law_1074 rfl ?_
  refine lq_iconst (v := 1) dL_law_1076 rfl ?_
  refine lq_iadd dL_law_1077 ?_
  refine lq_sld (hin 1 (by decide)) dL_law_1078 ?_
  refine lq_callV (Y' := YX10_count) (d' := 4) (As := [.int _]) (x := 0) (st := []) okX10_count lkL_143 rfl h0 rfl (by decide) hk (Nat.le_of_ble_eq_true rfl) (rc_count (d := 0) (by omega) hF hI.1 hI.2.2) dL_law_1079 (fun r M1 h1 => ?_)
  obtain ⟨v1, rfl, e1, g1, o1⟩ := h1
  have m1 := hI.2.1.out o1
  show lq_At S Λ YL 0 1082 (lw_ls i) [.int v1] M1 (b, L, xs, k, sl)
  refine lq_aload_n (j := 2) dL_law_1082 rfl rfl ?_
  refine lq_aload_n (j := 4) dL_law_1083 rfl rfl ?_
  refine lq_iload (j := 0) dL_law_1084 rfl ?_
  refine lq_iconst (v := 1) dL_law_1086 rfl ?_
  refine lq_iadd dL_law_1087 ?_
  refine lq_sld (hin 1 (by decide)) dL_law_1088 ?_
  refine lq_callV (Y' := YX11_count) (d' := 4) (As := [.int _]) (x := 207) (st := [.int v1]) okX11_count lkL_146 rfl h207 rfl (by decide) hk (Nat.le_of_ble_eq_true rfl) (rm_count (d := 0) hX (by omega) m1 hI.2.2) dL_law_1089 (fun r M2 h2 => ?_)
  obtain ⟨v2, rfl, e2, g2, f2⟩ := h2
  show lq_At S Λ YL 0 1092 (lw_ls i) [.int v2, .int v1] M2 (b, L, xs, k, sl)
  refine lq_icmp_eq (tgt := 1097) dL_law_1092 rfl (fun _ => ?_) (fun q => absurd (e1.trans e2.symm) q)
  exact lq_more (Nat.le_succ k) (Nat.le_add_right sl 6) (kk M2 _ ⟨g1.off f2, g2, hI.2.2.more (Nat.le_succ h)⟩)
end LC2
