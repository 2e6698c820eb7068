section PGS
variable {S : pg_S} {Λ : pg_L} {d : Nat} {M : pg_M} {P : Option Value → pg_M → Prop}

theorem sX11_pullOf_0 {v1 : Int32} {v2 : Int32} {v3 : Int32} {Q0 : pg_M → Prop} {Q1 : Int32 → pg_M → Prop}
    (h0 : pg_isX11 Λ)
    (e0 : pg_Ev S Λ YX11_laysFacts d [.ref 207, .int v1, .int v2, .int v3] M (fun r M' => r = none ∧ Q0 M'))
    (e1 : ∀ M1, Q0 M1 → (0 ≤ (M1.1 213 (6 : Int32).toNatClampNeg)) → pg_Ev S Λ YX11_worthAt d [.ref 207, .int (M1.1 213 (6 : Int32).toNatClampNeg)] M1 (fun r M' => ∃ x, r = some (.int x) ∧ Q1 x M'))
    (k0 : ∀ M1, Q0 M1 → (0 ≤ (M1.1 213 (6 : Int32).toNatClampNeg)) → ∀ x2 M2, Q1 x2 M2 → pg_At S Λ YX11_pullOf (d + 1) 51 [(0, .ref 207), (1, .int v1)] [.int x2] M2 P)
    (k1 : ∀ M1, Q0 M1 → (¬ 0 ≤ (M1.1 213 (6 : Int32).toNatClampNeg)) → pg_At S Λ YX11_pullOf (d + 1) 51 [(0, .ref 207), (1, .int v1)] [.int (((M1.1 219 (0 : Int32).toNatClampNeg) + (M1.1 219 (2 : Int32).toNatClampNeg)) - (M1.1 219 (1 : Int32).toNatClampNeg))] M1 P) :
    pg_At S Λ YX11_pullOf (d + 1) 0 [(0, .ref 207), (1, .int v1), (2, .int v2), (3, .int v3)] [] M P := by
  refine pg_aload_n (pc := 0) (i := 0) (j := 0) (x := 207) dX11_pullOf_0 rfl rfl ?_
  refine pg_iload_n (pc := 1) (i := 1) (j := 1) (x := v1) dX11_pullOf_1 rfl rfl ?_
  refine pg_iload_n (pc := 2) (i := 2) (j := 2) (x := v2) dX11_pullOf_2 rfl rfl ?_
  refine pg_iload_n (pc := 3) (i := 3) (j := 3) (x := v3) dX11_pullOf_3 rfl rfl ?_
  refine pg_callV (pc := 4) (As := [.int v1, .int v2, .int v3]) (st := []) okX11_laysFacts lkX11_311 rfl h0.1 rfl (Nat.le_refl _) (Nat.le_of_ble_eq_true rfl) e0 dX11_pullOf_4 (fun r1 M1 w1 => ?_)
  obtain ⟨rfl, w1⟩ := w1
  refine pg_aload_n (pc := 7) (i := 0) (j := 0) (x := 207) dX11_pullOf_7 rfl rfl ?_
  refine gfX11_89 (pc := 8) rfl h0 dX11_pullOf_8 ?_
  refine pg_bipush (pc := 11) (v := 6) dX11_pullOf_11 (by decide) ?_
  refine pg_iald (pc := 13) h0.2.2.2.2.2.2.1 (by unfold vp_in; decide) dX11_pullOf_13 ?_
  refine pg_if_ge (pc := 14) (tgt := 40) dX11_pullOf_14 (by decide) (fun c0 => ?_) (fun c0 => ?_)
  · skip
    refine pg_aload_n (pc := 40) (i := 0) (j := 0) (x := 207) dX11_pullOf_40 rfl rfl ?_
    refine pg_aload_n (pc := 41) (i := 0) (j := 0) (x := 207) dX11_pullOf_41 rfl rfl ?_
    refine gfX11_89 (pc := 42) rfl h0 dX11_pullOf_42 ?_
    refine pg_bipush (pc := 45) (v := 6) dX11_pullOf_45 (by decide) ?_
    refine pg_iald (pc := 47) h0.2.2.2.2.2.2.1 (by unfold vp_in; decide) dX11_pullOf_47 ?_
    refine pg_callV (pc := 48) (As := [.int (M1.1 213 (6 : Int32).toNatClampNeg)]) (st := []) okX11_worthAt lkX11_314 rfl h0.1 rfl (Nat.le_refl _) (Nat.le_of_ble_eq_true rfl) (e1 M1 w1 c0) dX11_pullOf_48 (fun r2 M2 w2 => ?_)
    obtain ⟨x2, rfl, w2⟩ := w2
    refine pg_drop (ks := [0, 1]) (ls' := [(0, .ref 207), (1, .int v1)]) rfl ?_
    exact k0 M1 w1 c0 x2 M2 w2
  · skip
    refine pg_aload_n (pc := 17) (i := 0) (j := 0) (x := 207) dX11_pullOf_17 rfl rfl ?_
    refine gfX11_107 (pc := 18) rfl h0 dX11_pullOf_18 ?_
    refine pg_iconst (pc := 21) (v := 0) dX11_pullOf_21 (by decide) ?_
    refine pg_iald (pc := 22) h0.2.2.2.2.2.2.2.2.2.2.2.2.1 (by unfold vp_in; decide) dX11_pullOf_22 ?_
    refine pg_aload_n (pc := 23) (i := 0) (j := 0) (x := 207) dX11_pullOf_23 rfl rfl ?_
    refine gfX11_107 (pc := 24) rfl h0 dX11_pullOf_24 ?_
    refine pg_iconst (pc := 27) (v := 2) dX11_pullOf_27 (by decide) ?_
    refine pg_iald (pc := 28) h0.2.2.2.2.2.2.2.2.2.2.2.2.1 (by unfold vp_in; decide) dX11_pullOf_28 ?_
    refine pg_iadd (pc := 29) dX11_pullOf_29 ?_
    refine pg_aload_n (pc := 30) (i := 0) (j := 0) (x := 207) dX11_pullOf_30 rfl rfl ?_
    refine gfX11_107 (pc := 31) rfl h0 dX11_pullOf_31 ?_
    refine pg_iconst (pc := 34) (v := 1) dX11_pullOf_34 (by decide) ?_
    refine pg_iald (pc := 35) h0.2.2.2.2.2.2.2.2.2.2.2.2.1 (by unfold vp_in; decide) dX11_pullOf_35 ?_
    refine pg_isub (pc := 36) dX11_pullOf_36 ?_
    refine pg_goto (pc := 37) (tgt := 51) dX11_pullOf_37 (by decide) ?_
    refine pg_drop (ks := [0, 1]) (ls' := [(0, .ref 207), (1, .int v1)]) rfl ?_
    exact k1 M1 w1 c0
theorem sX11_pullOf_51 {v1 : Int32} {s0 : Int32} {Q0 : Int32 → pg_M → Prop} {Q1 : Int32 → pg_M → Prop} {Q2 : Int32 → pg_M → Prop}
    (h0 : pg_isX11 Λ)
    (e0 : (0 ≤ s0) → (s0 ≤ 99) → pg_Ev S Λ YX11_clothOf d [.ref 207, .int v1, .int 0] M (fun r M' => ∃ x, r = some (.int x) ∧ Q0 x M'))
    (k0 : (0 ≤ s0) → (s0 ≤ 99) → ∀ x1 M1, Q0 x1 M1 → (¬ x1 = 2) → P (some (.int s0)) M1)
    (k1 : (0 ≤ s0) → (s0 ≤ 99) → ∀ x1 M1, Q0 x1 M1 → (x1 = 2) → P (some (.int (2 * s0))) M1)
    (e1 : (0 ≤ s0) → (¬ s0 ≤ 99) → pg_Ev S Λ YX11_clothOf d [.ref 207, .int v1, .int 0] M (fun r M' => ∃ x, r = some (.int x) ∧ Q1 x M'))
    (k2 : (0 ≤ s0) → (¬ s0 ≤ 99) → ∀ x2 M2, Q1 x2 M2 → (¬ x2 = 2) → P (some (.int 99)) M2)
    (k3 : (0 ≤ s0) → (¬ s0 ≤ 99) → ∀ x2 M2, Q1 x2 M2 → (x2 = 2) → P (some (.int (2 * 99))) M2)
    (e2 : (¬ 0 ≤ s0) → pg_Ev S Λ YX11_clothOf d [.ref 207, .int v1, .int 0] M (fun r M' => ∃ x, r = some (.int x) ∧ Q2 x M'))
    (k4 : (¬ 0 ≤ s0) → ∀ x3 M3, Q2 x3 M3 → (¬ x3 = 2) → P (some (.int 0)) M3)
    (k5 : (¬ 0 ≤ s0) → ∀ x3 M3, Q2 x3 M3 → (x3 = 2) → P (some (.int (2 * 0))) M3) :
    pg_At S Λ YX11_pullOf (d + 1) 51 [(0, .ref 207), (1, .int v1)] [.int s0] M P := by
  refine pg_istore (pc := 51) (i := 4) (ls' := [(4, .int s0), (0, .ref 207), (1, .int v1)]) dX11_pullOf_51 (by decide) rfl ?_
  refine pg_iload (pc := 53) (i := 4) (j := 0) (x := s0) dX11_pullOf_53 rfl ?_
  refine pg_if_ge (pc := 55) (tgt := 62) dX11_pullOf_55 (by decide) (fun c0 => ?_) (fun c0 => ?_)
  · skip
    refine pg_iload (pc := 62) (i := 4) (j := 0) (x := s0) dX11_pullOf_62 rfl ?_
    refine pg_bipush (pc := 64) (v := 99) dX11_pullOf_64 (by decide) ?_
    refine pg_icmp_le (pc := 66) (tgt := 74) dX11_pullOf_66 (by decide) (fun c1 => ?_) (fun c1 => ?_)
    · skip
      refine pg_iload (pc := 74) (i := 4) (j := 0) (x := s0) dX11_pullOf_74 rfl ?_
      refine pg_istore (pc := 76) (i := 4) (ls' := [(4, .int s0), (0, .ref 207), (1, .int v1)]) dX11_pullOf_76 (by decide) rfl ?_
      refine pg_aload_n (pc := 78) (i := 0) (j := 1) (x := 207) dX11_pullOf_78 rfl rfl ?_
      refine pg_iload_n (pc := 79) (i := 1) (j := 2) (x := v1) dX11_pullOf_79 rfl rfl ?_
      refine pg_iconst (pc := 80) (v := 0) dX11_pullOf_80 (by decide) ?_
      refine pg_callV (pc := 81) (As := [.int v1, .int 0]) (st := []) okX11_clothOf lkX11_295 rfl h0.1 rfl (Nat.le_refl _) (Nat.le_of_ble_eq_true rfl) (e0 c0 c1) dX11_pullOf_81 (fun r1 M1 w1 => ?_)
      obtain ⟨x1, rfl, w1⟩ := w1
      refine pg_iconst (pc := 84) (v := 2) dX11_pullOf_84 (by decide) ?_
      refine pg_icmp_ne (pc := 85) (tgt := 95) dX11_pullOf_85 (by decide) (fun c2 => ?_) (fun c2 => ?_)
      · skip
        refine pg_iload (pc := 95) (i := 4) (j := 0) (x := s0) dX11_pullOf_95 rfl ?_
        exact pg_iret (pc := 97) rfl dX11_pullOf_97 (k0 c0 c1 x1 M1 w1 c2)
      · skip
        refine pg_iconst (pc := 88) (v := 2) dX11_pullOf_88 (by decide) ?_
        refine pg_iload (pc := 89) (i := 4) (j := 0) (x := s0) dX11_pullOf_89 rfl ?_
        refine pg_imul (pc := 91) dX11_pullOf_91 ?_
        refine pg_goto (pc := 92) (tgt := 97) dX11_pullOf_92 (by decide) ?_
        exact pg_iret (pc := 97) rfl dX11_pullOf_97 (k1 c0 c1 x1 M1 w1 c2)
    · skip
      refine pg_bipush (pc := 69) (v := 99) dX11_pullOf_69 (by decide) ?_
      refine pg_goto (pc := 71) (tgt := 76) dX11_pullOf_71 (by decide) ?_
      refine pg_istore (pc := 76) (i := 4) (ls' := [(4, .int 99), (0, .ref 207), (1, .int v1)]) dX11_pullOf_76 (by decide) rfl ?_
      refine pg_aload_n (pc := 78) (i := 0) (j := 1) (x := 207) dX11_pullOf_78 rfl rfl ?_
      refine pg_iload_n (pc := 79) (i := 1) (j := 2) (x := v1) dX11_pullOf_79 rfl rfl ?_
      refine pg_iconst (pc := 80) (v := 0) dX11_pullOf_80 (by decide) ?_
      refine pg_callV (pc := 81) (As := [.int v1, .int 0]) (st := []) okX11_clothOf lkX11_295 rfl h0.1 rfl (Nat.le_refl _) (Nat.le_of_ble_eq_true rfl) (e1 c0 c1) dX11_pullOf_81 (fun r2 M2 w2 => ?_)
      obtain ⟨x2, rfl, w2⟩ := w2
      refine pg_iconst (pc := 84) (v := 2) dX11_pullOf_84 (by decide) ?_
      refine pg_icmp_ne (pc := 85) (tgt := 95) dX11_pullOf_85 (by decide) (fun c2 => ?_) (fun c2 => ?_)
      · skip
        refine pg_iload (pc := 95) (i := 4) (j := 0) (x := 99) dX11_pullOf_95 rfl ?_
        exact pg_iret (pc := 97) rfl dX11_pullOf_97 (k2 c0 c1 x2 M2 w2 c2)
      · skip
        refine pg_iconst (pc := 88) (v := 2) dX11_pullOf_88 (by decide) ?_
        refine pg_iload (pc := 89) (i := 4) (j := 0) (x := 99) dX11_pullOf_89 rfl ?_
        refine pg_imul (pc := 91) dX11_pullOf_91 ?_
        refine pg_goto (pc := 92) (tgt := 97) dX11_pullOf_92 (by decide) ?_
        exact pg_iret (pc := 97) rfl dX11_pullOf_97 (k3 c0 c1 x2 M2 w2 c2)
  · skip
    refine pg_iconst (pc := 58) (v := 0) dX11_pullOf_58 (by decide) ?_
    refine pg_goto (pc := 59) (tgt := 76) dX11_pullOf_59 (by decide) ?_
    refine pg_istore (pc := 76) (i := 4) (ls' := [(4, .int 0), (0, .ref 207), (1, .int v1)]) dX11_pullOf_76 (by decide) rfl ?_
    refine pg_aload_n (pc := 78) (i := 0) (j := 1) (x := 207) dX11_pullOf_78 rfl rfl ?_
    refine pg_iload_n (pc := 79) (i := 1) (j := 2) (x := v1) dX11_pullOf_79 rfl rfl ?_
    refine pg_iconst (pc := 80) (v := 0) dX11_pullOf_80 (by decide) ?_
    refine pg_callV (pc := 81) (As := [.int v1, .int 0]) (st := []) okX11_clothOf lkX11_295 rfl h0.1 rfl (Nat.le_refl _) (Nat.le_of_ble_eq_true rfl) (e2 c0) dX11_pullOf_81 (fun r3 M3 w3 => ?_)
    obtain ⟨x3, rfl, w3⟩ := w3
    refine pg_iconst (pc := 84) (v := 2) dX11_pullOf_84 (by decide) ?_
    refine pg_icmp_ne (pc := 85) (tgt := 95) dX11_pullOf_85 (by decide) (fun c1 => ?_) (fun c1 => ?_)
    · skip
      refine pg_iload (pc := 95) (i := 4) (j := 0) (x := 0) dX11_pullOf_95 rfl ?_
      exact pg_iret (pc := 97) rfl dX11_pullOf_97 (k4 c0 x3 M3 w3 c1)
    · skip
      refine pg_iconst (pc := 88) (v := 2) dX11_pullOf_88 (by decide) ?_
      refine pg_iload (pc := 89) (i := 4) (j := 0) (x := 0) dX11_pullOf_89 rfl ?_
      refine pg_imul (pc := 91) dX11_pullOf_91 ?_
      refine pg_goto (pc := 92) (tgt := 97) dX11_pullOf_92 (by decide) ?_
      exact pg_iret (pc := 97) rfl dX11_pullOf_97 (k5 c0 x3 M3 w3 c1)
theorem oX11_pullOf {d : Nat} {v1 : Int32} {v2 : Int32} {v3 : Int32} (h : pg_At S Λ YX11_pullOf d 0 [(0, .ref 207), (1, .int v1), (2, .int v2), (3, .int v3)] [] M P) : pg_Ev S Λ YX11_pullOf d [.ref 207, .int v1, .int v2, .int v3] M P := pg_Ev.of (by decide) (by first | decide | exact Nat.le_of_ble_eq_true rfl) h
theorem sX11_driedOf_0 {v1 : Int32} {v2 : Int32} {v3 : Int32} {Q0 : pg_M → Prop} {Q1 : Int32 → pg_M → Prop}
    (h0 : pg_isX11 Λ)
    (e0 : pg_Ev S Λ YX11_laysFacts d [.ref 207, .int v1, .int v2, .int v3] M (fun r M' => r = none ∧ Q0 M'))
    (e1 : ∀ M1, Q0 M1 → (0 ≤ (M1.1 213 (7 : Int32).toNatClampNeg)) → pg_Ev S Λ YX11_worthAt d [.ref 207, .int (M1.1 213 (7 : Int32).toNatClampNeg)] M1 (fun r M' => ∃ x, r = some (.int x) ∧ Q1 x M'))
    (k0 : ∀ M1, Q0 M1 → (0 ≤ (M1.1 213 (7 : Int32).toNatClampNeg)) → ∀ x2 M2, Q1 x2 M2 → pg_At S Λ YX11_driedOf (d + 1) 37 [(2, .int v2)] [.int x2] M2 P)
    (k1 : ∀ M1, Q0 M1 → (¬ 0 ≤ (M1.1 213 (7 : Int32).toNatClampNeg)) → pg_At S Λ YX11_driedOf (d + 1) 37 [(2, .int v2)] [.int (M1.1 219 (0 : Int32).toNatClampNeg)] M1 P) :
    pg_At S Λ YX11_driedOf (d + 1) 0 [(0, .ref 207), (1, .int v1), (2, .int v2), (3, .int v3)] [] M P := by
  refine pg_aload_n (pc := 0) (i := 0) (j := 0) (x := 207) dX11_driedOf_0 rfl rfl ?_
  refine pg_iload_n (pc := 1) (i := 1) (j := 1) (x := v1) dX11_driedOf_1 rfl rfl ?_
  refine pg_iload_n (pc := 2) (i := 2) (j := 2) (x := v2) dX11_driedOf_2 rfl rfl ?_
  refine pg_iload_n (pc := 3) (i := 3) (j := 3) (x := v3) dX11_driedOf_3 rfl rfl ?_
  refine pg_callV (pc := 4) (As := [.int v1, .int v2, .int v3]) (st := []) okX11_laysFacts lkX11_311 rfl h0.1 rfl (Nat.le_refl _) (Nat.le_of_ble_eq_true rfl) e0 dX11_driedOf_4 (fun r1 M1 w1 => ?_)
  obtain ⟨rfl, w1⟩ := w1
  refine pg_aload_n (pc := 7) (i := 0) (j := 0) (x := 207) dX11_driedOf_7 rfl rfl ?_
  refine gfX11_89 (pc := 8) rfl h0 dX11_driedOf_8 ?_
  refine pg_bipush (pc := 11) (v := 7) dX11_driedOf_11 (by decide) ?_
  refine pg_iald (pc := 13) h0.2.2.2.2.2.2.1 (by unfold vp_in; decide) dX11_driedOf_13 ?_
  refine pg_if_ge (pc := 14) (tgt := 26) dX11_driedOf_14 (by decide) (fun c0 => ?_) (fun c0 => ?_)
  · skip
    refine pg_aload_n (pc := 26) (i := 0) (j := 0) (x := 207) dX11_driedOf_26 rfl rfl ?_
    refine pg_aload_n (pc := 27) (i := 0) (j := 0) (x := 207) dX11_driedOf_27 rfl rfl ?_
    refine gfX11_89 (pc := 28) rfl h0 dX11_driedOf_28 ?_
    refine pg_bipush (pc := 31) (v := 7) dX11_driedOf_31 (by decide) ?_
    refine pg_iald (pc := 33) h0.2.2.2.2.2.2.1 (by unfold vp_in; decide) dX11_driedOf_33 ?_
    refine pg_callV (pc := 34) (As := [.int (M1.1 213 (7 : Int32).toNatClampNeg)]) (st := []) okX11_worthAt lkX11_314 rfl h0.1 rfl (Nat.le_refl _) (Nat.le_of_ble_eq_true rfl) (e1 M1 w1 c0) dX11_driedOf_34 (fun r2 M2 w2 => ?_)
    obtain ⟨x2, rfl, w2⟩ := w2
    refine pg_drop (ks := [2]) (ls' := [(2, .int v2)]) rfl ?_
    exact k0 M1 w1 c0 x2 M2 w2
  · skip
    refine pg_aload_n (pc := 17) (i := 0) (j := 0) (x := 207) dX11_driedOf_17 rfl rfl ?_
    refine gfX11_107 (pc := 18) rfl h0 dX11_driedOf_18 ?_
    refine pg_iconst (pc := 21) (v := 0) dX11_driedOf_21 (by decide) ?_
    refine pg_iald (pc := 22) h0.2.2.2.2.2.2.2.2.2.2.2.2.1 (by unfold vp_in; decide) dX11_driedOf_22 ?_
    refine pg_goto (pc := 23) (tgt := 37) dX11_driedOf_23 (by decide) ?_
    refine pg_drop (ks := [2]) (ls' := [(2, .int v2)]) rfl ?_
    exact k1 M1 w1 c0
theorem sX11_driedOf_37 {v2 : Int32} {s0 : Int32} 
    (k0 : (0 ≤ s0) → (s0 ≤ 9) → (0 ≤ (v2 - s0)) → P (some (.int (v2 - s0))) M)
    (k1 : (0 ≤ s0) → (s0 ≤ 9) → (¬ 0 ≤ (v2 - s0)) → P (some (.int 0)) M)
    (k2 : (0 ≤ s0) → (¬ s0 ≤ 9) → (0 ≤ (v2 - 9)) → P (some (.int (v2 - 9))) M)
    (k3 : (0 ≤ s0) → (¬ s0 ≤ 9) → (¬ 0 ≤ (v2 - 9)) → P (some (.int 0)) M)
    (k4 : (¬ 0 ≤ s0) → (0 ≤ (v2 - 0)) → P (some (.int (v2 - 0))) M)
    (k5 : (¬ 0 ≤ s0) → (¬ 0 ≤ (v2 - 0)) → P (some (.int 0)) M) :
    pg_At S Λ YX11_driedOf (d + 1) 37 [(2, .int v2)] [.int s0] M P := by
  refine pg_istore (pc := 37) (i := 4) (ls' := [(4, .int s0), (2, .int v2)]) dX11_driedOf_37 (by decide) rfl ?_
  refine pg_iload_n (pc := 39) (i := 2) (j := 1) (x := v2) dX11_driedOf_39 rfl rfl ?_
  refine pg_iload (pc := 40) (i := 4) (j := 0) (x := s0) dX11_driedOf_40 rfl ?_
  refine pg_if_ge (pc := 42) (tgt := 49) dX11_driedOf_42 (by decide) (fun c0 => ?_) (fun c0 => ?_)
  · skip
    refine pg_iload (pc := 49) (i := 4) (j := 0) (x := s0) dX11_driedOf_49 rfl ?_
    refine pg_bipush (pc := 51) (v := 9) dX11_driedOf_51 (by decide) ?_
    refine pg_icmp_le (pc := 53) (tgt := 61) dX11_driedOf_53 (by decide) (fun c1 => ?_) (fun c1 => ?_)
    · skip
      refine pg_iload (pc := 61) (i := 4) (j := 0) (x := s0) dX11_driedOf_61 rfl ?_
      refine pg_isub (pc := 63) dX11_driedOf_63 ?_
      refine pg_istore (pc := 64) (i := 4) (ls' := [(4, .int (v2 - s0)), (2, .int v2)]) dX11_driedOf_64 (by decide) rfl ?_
      refine pg_iload (pc := 66) (i := 4) (j := 0) (x := (v2 - s0)) dX11_driedOf_66 rfl ?_
      refine pg_if_ge (pc := 68) (tgt := 75) dX11_driedOf_68 (by decide) (fun c2 => ?_) (fun c2 => ?_)
      · skip
        refine pg_iload (pc := 75) (i := 4) (j := 0) (x := (v2 - s0)) dX11_driedOf_75 rfl ?_
        exact pg_iret (pc := 77) rfl dX11_driedOf_77 (k0 c0 c1 c2)
      · skip
        refine pg_iconst (pc := 71) (v := 0) dX11_driedOf_71 (by decide) ?_
        refine pg_goto (pc := 72) (tgt := 77) dX11_driedOf_72 (by decide) ?_
        exact pg_iret (pc := 77) rfl dX11_driedOf_77 (k1 c0 c1 c2)
    · skip
      refine pg_bipush (pc := 56) (v := 9) dX11_driedOf_56 (by decide) ?_
      refine pg_goto (pc := 58) (tgt := 63) dX11_driedOf_58 (by decide) ?_
      refine pg_isub (pc := 63) dX11_driedOf_63 ?_
      refine pg_istore (pc := 64) (i := 4) (ls' := [(4, .int (v2 - 9)), (2, .int v2)]) dX11_driedOf_64 (by decide) rfl ?_
      refine pg_iload (pc := 66) (i := 4) (j := 0) (x := (v2 - 9)) dX11_driedOf_66 rfl ?_
      refine pg_if_ge (pc := 68) (tgt := 75) dX11_driedOf_68 (by decide) (fun c2 => ?_) (fun c2 => ?_)
      · skip
        refine pg_iload (pc := 75) (i := 4) (j := 0) (x := (v2 - 9)) dX11_driedOf_75 rfl ?_
        exact pg_iret (pc := 77) rfl dX11_driedOf_77 (k2 c0 c1 c2)
      · skip
        refine pg_iconst (pc := 71) (v := 0) dX11_driedOf_71 (by decide) ?_
        refine pg_goto (pc := 72) (tgt := 77) dX11_driedOf_72 (by decide) ?_
        exact pg_iret (pc := 77) rfl dX11_driedOf_77 (k3 c0 c1 c2)
  · skip
    refine pg_iconst (pc := 45) (v := 0) dX11_driedOf_45 (by decide) ?_
    refine pg_goto (pc := 46) (tgt := 63) dX11_driedOf_46 (by decide) ?_
    refine pg_isub (pc := 63) dX11_driedOf_63 ?_
    refine pg_istore (pc := 64) (i := 4) (ls' := [(4, .int (v2 - 0)), (2, .int v2)]) dX11_driedOf_64 (by decide) rfl ?_
    refine pg_iload (pc := 66) (i := 4) (j := 0) (x := (v2 - 0)) dX11_driedOf_66 rfl ?_
    refine pg_if_ge (pc := 68) (tgt := 75) dX11_driedOf_68 (by decide) (fun c1 => ?_) (fun c1 => ?_)
    · skip
      refine pg_iload (pc := 75) (i := 4) (j := 0) (x := (v2 - 0)) dX11_driedOf_75 rfl ?_
      exact pg_iret (pc := 77) rfl dX11_driedOf_77 (k4 c0 c1)
    · skip
      refine pg_iconst (pc := 71) (v := 0) dX11_driedOf_71 (by decide) ?_
      refine pg_goto (pc := 72) (tgt := 77) dX11_driedOf_72 (by decide) ?_
      exact pg_iret (pc := 77) rfl dX11_driedOf_77 (k5 c0 c1)
theorem oX11_driedOf {d : Nat} {v1 : Int32} {v2 : Int32} {v3 : Int32} (h : pg_At S Λ YX11_driedOf d 0 [(0, .ref 207), (1, .int v1), (2, .int v2), (3, .int v3)] [] M P) : pg_Ev S Λ YX11_driedOf d [.ref 207, .int v1, .int v2, .int v3] M P := pg_Ev.of (by decide) (by first | decide | exact Nat.le_of_ble_eq_true rfl) h
theorem sX11_gripsOf_0 {v1 : Int32} {v2 : Int32} 
    (k0 : pg_At S Λ YX11_gripsOf d 5 [(0, .ref 207), (1, .int v1), (2, .int v2), (3, .int 0), (4, .int 0)] [] M P) :
    pg_At S Λ YX11_gripsOf d 0 [(0, .ref 207), (1, .int v1), (2, .int v2)] [] M P := by
  refine pg_iconst (pc := 0) (v := 0) dX11_gripsOf_0 (by decide) ?_
  refine pg_istore_n (pc := 1) (i := 3) (ls' := [(3, .int 0), (0, .ref 207), (1, .int v1), (2, .int v2)]) dX11_gripsOf_1 rfl (by decide) rfl ?_
  refine pg_iconst (pc := 2) (v := 0) dX11_gripsOf_2 (by decide) ?_
  refine pg_istore (pc := 3) (i := 4) (ls' := [(4, .int 0), (3, .int 0), (0, .ref 207), (1, .int v1), (2, .int v2)]) dX11_gripsOf_3 (by decide) rfl ?_
  refine pg_drop (ks := [2, 3, 4, 1, 0]) (ls' := [(0, .ref 207), (1, .int v1), (2, .int v2), (3, .int 0), (4, .int 0)]) rfl ?_
  exact k0
theorem sX11_gripsOf_5 {v1 : Int32} {v2 : Int32} {v3 : Int32} {v4 : Int32} 
    (h0 : pg_isX11 Λ)
    (k0 : (8 ≤ v4) → P (some (.int v3)) M)
    (k1 : (¬ 8 ≤ v4) → (¬ ((v2 >>> (v4 &&& 31)) &&& 1) = 1) → pg_At S Λ YX11_gripsOf d 5 [(0, .ref 207), (1, .int v1), (2, .int v2), (3, .int (v3 + 0)), (4, .int (v4 + 1))] [] M P)
    (b0 : (¬ 8 ≤ v4) → (((v2 >>> (v4 &&& 31)) &&& 1) = 1) → vp_in ((v1 + 20) + v4) 1242)
    (k2 : (¬ 8 ≤ v4) → (((v2 >>> (v4 &&& 31)) &&& 1) = 1) → pg_At S Λ YX11_gripsOf d 5 [(0, .ref 207), (1, .int v1), (2, .int v2), (3, .int (v3 + (M.1 221 ((v1 + 20) + v4).toNatClampNeg))), (4, .int (v4 + 1))] [] M P) :
    pg_At S Λ YX11_gripsOf d 5 [(0, .ref 207), (1, .int v1), (2, .int v2), (3, .int v3), (4, .int v4)] [] M P := by
  refine pg_iload (pc := 5) (i := 4) (j := 4) (x := v4) dX11_gripsOf_5 rfl ?_
  refine pg_bipush (pc := 7) (v := 8) dX11_gripsOf_7 (by decide) ?_
  refine pg_icmp_ge (pc := 9) (tgt := 47) dX11_gripsOf_9 (by decide) (fun c0 => ?_) (fun c0 => ?_)
  · skip
    refine pg_iload_n (pc := 47) (i := 3) (j := 3) (x := v3) dX11_gripsOf_47 rfl rfl ?_
    exact pg_iret (pc := 48) rfl dX11_gripsOf_48 (k0 c0)
  · skip
    refine pg_iload_n (pc := 12) (i := 3) (j := 3) (x := v3) dX11_gripsOf_12 rfl rfl ?_
    refine pg_iload_n (pc := 13) (i := 2) (j := 2) (x := v2) dX11_gripsOf_13 rfl rfl ?_
    refine pg_iload (pc := 14) (i := 4) (j := 4) (x := v4) dX11_gripsOf_14 rfl ?_
    refine pg_ishr (pc := 16) dX11_gripsOf_16 ?_
    refine pg_iconst (pc := 17) (v := 1) dX11_gripsOf_17 (by decide) ?_
    refine pg_iand (pc := 18) dX11_gripsOf_18 ?_
    refine pg_iconst (pc := 19) (v := 1) dX11_gripsOf_19 (by decide) ?_
    refine pg_icmp_ne (pc := 20) (tgt := 38) dX11_gripsOf_20 (by decide) (fun c1 => ?_) (fun c1 => ?_)
    · skip
      refine pg_iconst (pc := 38) (v := 0) dX11_gripsOf_38 (by decide) ?_
      refine pg_iadd (pc := 39) dX11_gripsOf_39 ?_
      refine pg_istore_n (pc := 40) (i := 3) (ls' := [(3, .int (v3 + 0)), (0, .ref 207), (1, .int v1), (2, .int v2), (4, .int v4)]) dX11_gripsOf_40 rfl (by decide) rfl ?_
      refine pg_iinc (pc := 41) (i := 4) (j := 4) (x := v4) (v := v4 + 1) (ls' := [(4, .int (v4 + 1)), (3, .int (v3 + 0)), (0, .ref 207), (1, .int v1), (2, .int v2)]) dX11_gripsOf_41 rfl rfl (by decide) rfl ?_
      refine pg_goto (pc := 44) (tgt := 5) dX11_gripsOf_44 (by decide) ?_
      refine pg_drop (ks := [2, 3, 4, 1, 0]) (ls' := [(0, .ref 207), (1, .int v1), (2, .int v2), (3, .int (v3 + 0)), (4, .int (v4 + 1))]) rfl ?_
      exact k1 c0 c1
    · skip
      refine pg_aload_n (pc := 23) (i := 0) (j := 0) (x := 207) dX11_gripsOf_23 rfl rfl ?_
      refine gfX11_113 (pc := 24) rfl h0 dX11_gripsOf_24 ?_
      refine pg_iload_n (pc := 27) (i := 1) (j := 1) (x := v1) dX11_gripsOf_27 rfl rfl ?_
      refine pg_bipush (pc := 28) (v := 20) dX11_gripsOf_28 (by decide) ?_
      refine pg_iadd (pc := 30) dX11_gripsOf_30 ?_
      refine pg_iload (pc := 31) (i := 4) (j := 4) (x := v4) dX11_gripsOf_31 rfl ?_
      refine pg_iadd (pc := 33) dX11_gripsOf_33 ?_
      refine pg_iald (pc := 34) h0.2.2.2.2.2.2.2.2.2.2.2.2.2.2.1 (b0 c0 c1) dX11_gripsOf_34 ?_
      refine pg_goto (pc := 35) (tgt := 39) dX11_gripsOf_35 (by decide) ?_
      refine pg_iadd (pc := 39) dX11_gripsOf_39 ?_
      refine pg_istore_n (pc := 40) (i := 3) (ls' := [(3, .int (v3 + (M.1 221 ((v1 + 20) + v4).toNatClampNeg))), (0, .ref 207), (1, .int v1), (2, .int v2), (4, .int v4)]) dX11_gripsOf_40 rfl (by decide) rfl ?_
      refine pg_iinc (pc := 41) (i := 4) (j := 4) (x := v4) (v := v4 + 1) (ls' := [(4, .int (v4 + 1)), (3, .int (v3 + (M.1 221 ((v1 + 20) + v4).toNatClampNeg))), (0, .ref 207), (1, .int v1), (2, .int v2)]) dX11_gripsOf_41 rfl rfl (by decide) rfl ?_
      refine pg_goto (pc := 44) (tgt := 5) dX11_gripsOf_44 (by decide) ?_
      refine pg_drop (ks := [2, 3, 4, 1, 0]) (ls' := [(0, .ref 207), (1, .int v1), (2, .int v2), (3, .int (v3 + (M.1 221 ((v1 + 20) + v4).toNatClampNeg))), (4, .int (v4 + 1))]) rfl ?_
      exact k2 c0 c1
theorem oX11_gripsOf {d : Nat} {v1 : Int32} {v2 : Int32} (h : pg_At S Λ YX11_gripsOf d 0 [(0, .ref 207), (1, .int v1), (2, .int v2)] [] M P) : pg_Ev S Λ YX11_gripsOf d [.ref 207, .int v1, .int v2] M P := pg_Ev.of (by decide) (by first | decide | exact Nat.le_of_ble_eq_true rfl) h
theorem sX11_falls_0 {v1 : Int32} {v2 : Int32} 
    (h0 : pg_isX11 Λ)
    (b0 : vp_in ((v1 + 14) + v2) 1242)
    (b1 : vp_in ((v1 + 2) + v2) 1242)
    (b2 : vp_in ((v1 + 8) + v2) 1242)
    (k0 : (9 ≤ ((pg_si (pg_si M 221 ((v1 + 14) + v2).toNatClampNeg 0) 221 ((v1 + 2) + v2).toNatClampNeg 9).1 221 ((v1 + 8) + v2).toNatClampNeg)) → ∀ N1, N1 = pg_si (pg_si (pg_si M 221 ((v1 + 14) + v2).toNatClampNeg 0) 221 ((v1 + 2) + v2).toNatClampNeg 9) 221 ((v1 + 8) + v2).toNatClampNeg (((pg_si (pg_si M 221 ((v1 + 14) + v2).toNatClampNeg 0) 221 ((v1 + 2) + v2).toNatClampNeg 9).1 221 ((v1 + 8) + v2).toNatClampNeg) + 0) → P none N1)
    (k1 : (¬ 9 ≤ ((pg_si (pg_si M 221 ((v1 + 14) + v2).toNatClampNeg 0) 221 ((v1 + 2) + v2).toNatClampNeg 9).1 221 ((v1 + 8) + v2).toNatClampNeg)) → ∀ N2, N2 = pg_si (pg_si (pg_si M 221 ((v1 + 14) + v2).toNatClampNeg 0) 221 ((v1 + 2) + v2).toNatClampNeg 9) 221 ((v1 + 8) + v2).toNatClampNeg (((pg_si (pg_si M 221 ((v1 + 14) + v2).toNatClampNeg 0) 221 ((v1 + 2) + v2).toNatClampNeg 9).1 221 ((v1 + 8) + v2).toNatClampNeg) + 1) → P none N2) :
    pg_At S Λ YX11_falls d 0 [(0, .ref 207), (1, .int v1), (2, .int v2)] [] M P := by
  refine pg_aload_n (pc := 0) (i := 0) (j := 0) (x := 207) dX11_falls_0 rfl rfl ?_
  refine gfX11_113 (pc := 1) rfl h0 dX11_falls_1 ?_
  refine pg_iload_n (pc := 4) (i := 1) (j := 1) (x := v1) dX11_falls_4 rfl rfl ?_
  refine pg_bipush (pc := 5) (v := 14) dX11_falls_5 (by decide) ?_
  refine pg_iadd (pc := 7) dX11_falls_7 ?_
  refine pg_iload_n (pc := 8) (i := 2) (j := 2) (x := v2) dX11_falls_8 rfl rfl ?_
  refine pg_iadd (pc := 9) dX11_falls_9 ?_
  refine pg_iconst (pc := 10) (v := 0) dX11_falls_10 (by decide) ?_
  refine pg_iast (pc := 11) h0.2.2.2.2.2.2.2.2.2.2.2.2.2.2.1 b0 dX11_falls_11 ?_
  refine pg_aload_n (pc := 12) (i := 0) (j := 0) (x := 207) dX11_falls_12 rfl rfl ?_
  refine gfX11_113 (pc := 13) rfl h0 dX11_falls_13 ?_
  refine pg_iload_n (pc := 16) (i := 1) (j := 1) (x := v1) dX11_falls_16 rfl rfl ?_
  refine pg_iconst (pc := 17) (v := 2) dX11_falls_17 (by decide) ?_
  refine pg_iadd (pc := 18) dX11_falls_18 ?_
  refine pg_iload_n (pc := 19) (i := 2) (j := 2) (x := v2) dX11_falls_19 rfl rfl ?_
  refine pg_iadd (pc := 20) dX11_falls_20 ?_
  refine pg_bipush (pc := 21) (v := 9) dX11_falls_21 (by decide) ?_
  refine pg_iast (pc := 23) h0.2.2.2.2.2.2.2.2.2.2.2.2.2.2.1 b1 dX11_falls_23 ?_
  refine pg_aload_n (pc := 24) (i := 0) (j := 0) (x := 207) dX11_falls_24 rfl rfl ?_
  refine gfX11_113 (pc := 25) rfl h0 dX11_falls_25 ?_
  refine pg_iload_n (pc := 28) (i := 1) (j := 1) (x := v1) dX11_falls_28 rfl rfl ?_
  refine pg_bipush (pc := 29) (v := 8) dX11_falls_29 (by decide) ?_
  refine pg_iadd (pc := 31) dX11_falls_31 ?_
  refine pg_iload_n (pc := 32) (i := 2) (j := 2) (x := v2) dX11_falls_32 rfl rfl ?_
  refine pg_iadd (pc := 33) dX11_falls_33 ?_
  refine pg_dup2_11 (pc := 34) dX11_falls_34 rfl rfl ?_
  refine pg_iald (pc := 35) h0.2.2.2.2.2.2.2.2.2.2.2.2.2.2.1 b2 dX11_falls_35 ?_
  refine pg_aload_n (pc := 36) (i := 0) (j := 0) (x := 207) dX11_falls_36 rfl rfl ?_
  refine gfX11_113 (pc := 37) rfl h0 dX11_falls_37 ?_
  refine pg_iload_n (pc := 40) (i := 1) (j := 1) (x := v1) dX11_falls_40 rfl rfl ?_
  refine pg_bipush (pc := 41) (v := 8) dX11_falls_41 (by decide) ?_
  refine pg_iadd (pc := 43) dX11_falls_43 ?_
  refine pg_iload_n (pc := 44) (i := 2) (j := 2) (x := v2) dX11_falls_44 rfl rfl ?_
  refine pg_iadd (pc := 45) dX11_falls_45 ?_
  refine pg_iald (pc := 46) h0.2.2.2.2.2.2.2.2.2.2.2.2.2.2.1 b2 dX11_falls_46 ?_
  refine pg_bipush (pc := 47) (v := 9) dX11_falls_47 (by decide) ?_
  refine pg_icmp_ge (pc := 49) (tgt := 56) dX11_falls_49 (by decide) (fun c0 => ?_) (fun c0 => ?_)
  · skip
    refine pg_iconst (pc := 56) (v := 0) dX11_falls_56 (by decide) ?_
    refine pg_iadd (pc := 57) dX11_falls_57 ?_
    refine pg_iast (pc := 58) h0.2.2.2.2.2.2.2.2.2.2.2.2.2.2.1 b2 dX11_falls_58 ?_
    refine pg_named (fun N1 u1 => ?_)
    exact pg_vret (pc := 59) rfl dX11_falls_59 (k0 c0 N1 u1)
  · skip
    refine pg_iconst (pc := 52) (v := 1) dX11_falls_52 (by decide) ?_
    refine pg_goto (pc := 53) (tgt := 57) dX11_falls_53 (by decide) ?_
    refine pg_iadd (pc := 57) dX11_falls_57 ?_
    refine pg_iast (pc := 58) h0.2.2.2.2.2.2.2.2.2.2.2.2.2.2.1 b2 dX11_falls_58 ?_
    refine pg_named (fun N2 u2 => ?_)
    exact pg_vret (pc := 59) rfl dX11_falls_59 (k1 c0 N2 u2)
theorem oX11_falls {d : Nat} {v1 : Int32} {v2 : Int32} (h : pg_At S Λ YX11_falls d 0 [(0, .ref 207), (1, .int v1), (2, .int v2)] [] M P) : pg_Ev S Λ YX11_falls d [.ref 207, .int v1, .int v2] M P := pg_Ev.of (by decide) (by first | decide | exact Nat.le_of_ble_eq_true rfl) h
theorem sX11_loosens_0 {v1 : Int32} {v2 : Int32} 
    (k0 : pg_At S Λ YX11_loosens d 2 [(0, .ref 207), (1, .int v1), (2, .int v2), (3, .int 0)] [] M P) :
    pg_At S Λ YX11_loosens d 0 [(0, .ref 207), (1, .int v1), (2, .int v2)] [] M P := by
  refine pg_iconst (pc := 0) (v := 0) dX11_loosens_0 (by decide) ?_
  refine pg_istore_n (pc := 1) (i := 3) (ls' := [(3, .int 0), (0, .ref 207), (1, .int v1), (2, .int v2)]) dX11_loosens_1 rfl (by decide) rfl ?_
  refine pg_drop (ks := [1, 2, 3, 0]) (ls' := [(0, .ref 207), (1, .int v1), (2, .int v2), (3, .int 0)]) rfl ?_
  exact k0
theorem sX11_loosens_2 {v1 : Int32} {v2 : Int32} {v3 : Int32} 
    (h0 : pg_isX11 Λ)
    (k0 : (8 ≤ v3) → P none M)
    (b0 : (¬ 8 ≤ v3) → vp_in ((v1 + 20) + v3) 1242)
    (k1 : (¬ 8 ≤ v3) → (¬ ((v2 >>> (v3 &&& 31)) &&& 1) = 1) → pg_At S Λ YX11_loosens d 2 [(0, .ref 207), (1, .int v1), (2, .int v2), (3, .int (v3 + 1))] [] (pg_si M 221 ((v1 + 20) + v3).toNatClampNeg ((M.1 221 ((v1 + 20) + v3).toNatClampNeg) - 0)) P)
    (k2 : (¬ 8 ≤ v3) → (((v2 >>> (v3 &&& 31)) &&& 1) = 1) → ((M.1 221 ((v1 + 20) + v3).toNatClampNeg) ≤ 0) → pg_At S Λ YX11_loosens d 2 [(0, .ref 207), (1, .int v1), (2, .int v2), (3, .int (v3 + 1))] [] (pg_si M 221 ((v1 + 20) + v3).toNatClampNeg ((M.1 221 ((v1 + 20) + v3).toNatClampNeg) - 0)) P)
    (k3 : (¬ 8 ≤ v3) → (((v2 >>> (v3 &&& 31)) &&& 1) = 1) → (¬ (M.1 221 ((v1 + 20) + v3).toNatClampNeg) ≤ 0) → pg_At S Λ YX11_loosens d 2 [(0, .ref 207), (1, .int v1), (2, .int v2), (3, .int (v3 + 1))] [] (pg_si M 221 ((v1 + 20) + v3).toNatClampNeg ((M.1 221 ((v1 + 20) + v3).toNatClampNeg) - 1)) P) :
    pg_At S Λ YX11_loosens d 2 [(0, .ref 207), (1, .int v1), (2, .int v2), (3, .int v3)] [] M P := by
  refine pg_iload_n (pc := 2) (i := 3) (j := 3) (x := v3) dX11_loosens_2 rfl rfl ?_
  refine pg_bipush (pc := 3) (v := 8) dX11_loosens_3 (by decide) ?_
  refine pg_icmp_ge (pc := 5) (tgt := 56) dX11_loosens_5 (by decide) (fun c0 => ?_) (fun c0 => ?_)
  · skip
    exact pg_vret (pc := 56) rfl dX11_loosens_56 (k0 c0)
  · skip
    refine pg_aload_n (pc := 8) (i := 0) (j := 0) (x := 207) dX11_loosens_8 rfl rfl ?_
    refine gfX11_113 (pc := 9) rfl h0 dX11_loosens_9 ?_
    refine pg_iload_n (pc := 12) (i := 1) (j := 1) (x := v1) dX11_loosens_12 rfl rfl ?_
    refine pg_bipush (pc := 13) (v := 20) dX11_loosens_13 (by decide) ?_
    refine pg_iadd (pc := 15) dX11_loosens_15 ?_
    refine pg_iload_n (pc := 16) (i := 3) (j := 3) (x := v3) dX11_loosens_16 rfl rfl ?_
    refine pg_iadd (pc := 17) dX11_loosens_17 ?_
    refine pg_dup2_11 (pc := 18) dX11_loosens_18 rfl rfl ?_
    refine pg_iald (pc := 19) h0.2.2.2.2.2.2.2.2.2.2.2.2.2.2.1 (b0 c0) dX11_loosens_19 ?_
    refine pg_iload_n (pc := 20) (i := 2) (j := 2) (x := v2) dX11_loosens_20 rfl rfl ?_
    refine pg_iload_n (pc := 21) (i := 3) (j := 3) (x := v3) dX11_loosens_21 rfl rfl ?_
    refine pg_ishr (pc := 22) dX11_loosens_22 ?_
    refine pg_iconst (pc := 23) (v := 1) dX11_loosens_23 (by decide) ?_
    refine pg_iand (pc := 24) dX11_loosens_24 ?_
    refine pg_iconst (pc := 25) (v := 1) dX11_loosens_25 (by decide) ?_
    refine pg_icmp_ne (pc := 26) (tgt := 47) dX11_loosens_26 (by decide) (fun c1 => ?_) (fun c1 => ?_)
    · skip
      refine pg_iconst (pc := 47) (v := 0) dX11_loosens_47 (by decide) ?_
      refine pg_isub (pc := 48) dX11_loosens_48 ?_
      refine pg_iast (pc := 49) h0.2.2.2.2.2.2.2.2.2.2.2.2.2.2.1 (b0 c0) dX11_loosens_49 ?_
      refine pg_iinc (pc := 50) (i := 3) (j := 3) (x := v3) (v := v3 + 1) (ls' := [(3, .int (v3 + 1)), (0, .ref 207), (1, .int v1), (2, .int v2)]) dX11_loosens_50 rfl rfl (by decide) rfl ?_
      refine pg_goto (pc := 53) (tgt := 2) dX11_loosens_53 (by decide) ?_
      refine pg_drop (ks := [1, 2, 3, 0]) (ls' := [(0, .ref 207), (1, .int v1), (2, .int v2), (3, .int (v3 + 1))]) rfl ?_
      exact k1 c0 c1
    · skip
      refine pg_aload_n (pc := 29) (i := 0) (j := 0) (x := 207) dX11_loosens_29 rfl rfl ?_
      refine gfX11_113 (pc := 30) rfl h0 dX11_loosens_30 ?_
      refine pg_iload_n (pc := 33) (i := 1) (j := 1) (x := v1) dX11_loosens_33 rfl rfl ?_
      refine pg_bipush (pc := 34) (v := 20) dX11_loosens_34 (by decide) ?_
      refine pg_iadd (pc := 36) dX11_loosens_36 ?_
      refine pg_iload_n (pc := 37) (i := 3) (j := 3) (x := v3) dX11_loosens_37 rfl rfl ?_
      refine pg_iadd (pc := 38) dX11_loosens_38 ?_
      refine pg_iald (pc := 39) h0.2.2.2.2.2.2.2.2.2.2.2.2.2.2.1 (b0 c0) dX11_loosens_39 ?_
      refine pg_if_le (pc := 40) (tgt := 47) dX11_loosens_40 (by decide) (fun c2 => ?_) (fun c2 => ?_)
      · skip
        refine pg_iconst (pc := 47) (v := 0) dX11_loosens_47 (by decide) ?_
        refine pg_isub (pc := 48) dX11_loosens_48 ?_
        refine pg_iast (pc := 49) h0.2.2.2.2.2.2.2.2.2.2.2.2.2.2.1 (b0 c0) dX11_loosens_49 ?_
        refine pg_iinc (pc := 50) (i := 3) (j := 3) (x := v3) (v := v3 + 1) (ls' := [(3, .int (v3 + 1)), (0, .ref 207), (1, .int v1), (2, .int v2)]) dX11_loosens_50 rfl rfl (by decide) rfl ?_
        refine pg_goto (pc := 53) (tgt := 2) dX11_loosens_53 (by decide) ?_
        refine pg_drop (ks := [1, 2, 3, 0]) (ls' := [(0, .ref 207), (1, .int v1), (2, .int v2), (3, .int (v3 + 1))]) rfl ?_
        exact k2 c0 c1 c2
      · skip
        refine pg_iconst (pc := 43) (v := 1) dX11_loosens_43 (by decide) ?_
        refine pg_goto (pc := 44) (tgt := 48) dX11_loosens_44 (by decide) ?_
        refine pg_isub (pc := 48) dX11_loosens_48 ?_
        refine pg_iast (pc := 49) h0.2.2.2.2.2.2.2.2.2.2.2.2.2.2.1 (b0 c0) dX11_loosens_49 ?_
        refine pg_iinc (pc := 50) (i := 3) (j := 3) (x := v3) (v := v3 + 1) (ls' := [(3, .int (v3 + 1)), (0, .ref 207), (1, .int v1), (2, .int v2)]) dX11_loosens_50 rfl rfl (by decide) rfl ?_
        refine pg_goto (pc := 53) (tgt := 2) dX11_loosens_53 (by decide) ?_
        refine pg_drop (ks := [1, 2, 3, 0]) (ls' := [(0, .ref 207), (1, .int v1), (2, .int v2), (3, .int (v3 + 1))]) rfl ?_
        exact k3 c0 c1 c2
theorem oX11_loosens {d : Nat} {v1 : Int32} {v2 : Int32} (h : pg_At S Λ YX11_loosens d 0 [(0, .ref 207), (1, .int v1), (2, .int v2)] [] M P) : pg_Ev S Λ YX11_loosens d [.ref 207, .int v1, .int v2] M P := pg_Ev.of (by decide) (by first | decide | exact Nat.le_of_ble_eq_true rfl) h
theorem sX11_held_0 {v1 : Int32} {v2 : Int32} 
    (k0 : pg_At S Λ YX11_held d 5 [(0, .ref 207), (1, .int v1), (2, .int v2), (3, .int 0), (4, .int 0)] [] M P) :
    pg_At S Λ YX11_held d 0 [(0, .ref 207), (1, .int v1), (2, .int v2)] [] M P := by
  refine pg_iconst (pc := 0) (v := 0) dX11_held_0 (by decide) ?_
  refine pg_istore_n (pc := 1) (i := 3) (ls' := [(3, .int 0), (0, .ref 207), (1, .int v1), (2, .int v2)]) dX11_held_1 rfl (by decide) rfl ?_
  refine pg_iconst (pc := 2) (v := 0) dX11_held_2 (by decide) ?_
  refine pg_istore (pc := 3) (i := 4) (ls' := [(4, .int 0), (3, .int 0), (0, .ref 207), (1, .int v1), (2, .int v2)]) dX11_held_3 (by decide) rfl ?_
  refine pg_drop (ks := [2, 3, 4, 1, 0]) (ls' := [(0, .ref 207), (1, .int v1), (2, .int v2), (3, .int 0), (4, .int 0)]) rfl ?_
  exact k0
theorem sX11_held_5 {v1 : Int32} {v2 : Int32} {v3 : Int32} {v4 : Int32} 
    (h0 : pg_isX11 Λ)
    (k0 : (8 ≤ v4) → P (some (.int v3)) M)
    (k1 : (¬ 8 ≤ v4) → (¬ ((v2 >>> (v4 &&& 31)) &&& 1) = 1) → pg_At S Λ YX11_held d 5 [(0, .ref 207), (1, .int v1), (2, .int v2), (3, .int (v3 ||| 0)), (4, .int (v4 + 1))] [] M P)
    (b0 : (¬ 8 ≤ v4) → (((v2 >>> (v4 &&& 31)) &&& 1) = 1) → vp_in ((v1 + 20) + v4) 1242)
    (k2 : (¬ 8 ≤ v4) → (((v2 >>> (v4 &&& 31)) &&& 1) = 1) → ((M.1 221 ((v1 + 20) + v4).toNatClampNeg) ≤ 0) → pg_At S Λ YX11_held d 5 [(0, .ref 207), (1, .int v1), (2, .int v2), (3, .int (v3 ||| 0)), (4, .int (v4 + 1))] [] M P)
    (k3 : (¬ 8 ≤ v4) → (((v2 >>> (v4 &&& 31)) &&& 1) = 1) → (¬ (M.1 221 ((v1 + 20) + v4).toNatClampNeg) ≤ 0) → pg_At S Λ YX11_held d 5 [(0, .ref 207), (1, .int v1), (2, .int v2), (3, .int (v3 ||| ((1 : Int32) <<< (v4 &&& 31)))), (4, .int (v4 + 1))] [] M P) :
    pg_At S Λ YX11_held d 5 [(0, .ref 207), (1, .int v1), (2, .int v2), (3, .int v3), (4, .int v4)] [] M P := by
  refine pg_iload (pc := 5) (i := 4) (j := 4) (x := v4) dX11_held_5 rfl ?_
  refine pg_bipush (pc := 7) (v := 8) dX11_held_7 (by decide) ?_
  refine pg_icmp_ge (pc := 9) (tgt := 54) dX11_held_9 (by decide) (fun c0 => ?_) (fun c0 => ?_)
  · skip
    refine pg_iload_n (pc := 54) (i := 3) (j := 3) (x := v3) dX11_held_54 rfl rfl ?_
    exact pg_iret (pc := 55) rfl dX11_held_55 (k0 c0)
  · skip
    refine pg_iload_n (pc := 12) (i := 3) (j := 3) (x := v3) dX11_held_12 rfl rfl ?_
    refine pg_iload_n (pc := 13) (i := 2) (j := 2) (x := v2) dX11_held_13 rfl rfl ?_
    refine pg_iload (pc := 14) (i := 4) (j := 4) (x := v4) dX11_held_14 rfl ?_
    refine pg_ishr (pc := 16) dX11_held_16 ?_
    refine pg_iconst (pc := 17) (v := 1) dX11_held_17 (by decide) ?_
    refine pg_iand (pc := 18) dX11_held_18 ?_
    refine pg_iconst (pc := 19) (v := 1) dX11_held_19 (by decide) ?_
    refine pg_icmp_ne (pc := 20) (tgt := 45) dX11_held_20 (by decide) (fun c1 => ?_) (fun c1 => ?_)
    · skip
      refine pg_iconst (pc := 45) (v := 0) dX11_held_45 (by decide) ?_
      refine pg_ior (pc := 46) dX11_held_46 ?_
      refine pg_istore_n (pc := 47) (i := 3) (ls' := [(3, .int (v3 ||| 0)), (0, .ref 207), (1, .int v1), (2, .int v2), (4, .int v4)]) dX11_held_47 rfl (by decide) rfl ?_
      refine pg_iinc (pc := 48) (i := 4) (j := 4) (x := v4) (v := v4 + 1) (ls' := [(4, .int (v4 + 1)), (3, .int (v3 ||| 0)), (0, .ref 207), (1, .int v1), (2, .int v2)]) dX11_held_48 rfl rfl (by decide) rfl ?_
      refine pg_goto (pc := 51) (tgt := 5) dX11_held_51 (by decide) ?_
      refine pg_drop (ks := [2, 3, 4, 1, 0]) (ls' := [(0, .ref 207), (1, .int v1), (2, .int v2), (3, .int (v3 ||| 0)), (4, .int (v4 + 1))]) rfl ?_
      exact k1 c0 c1
    · skip
      refine pg_aload_n (pc := 23) (i := 0) (j := 0) (x := 207) dX11_held_23 rfl rfl ?_
      refine gfX11_113 (pc := 24) rfl h0 dX11_held_24 ?_
      refine pg_iload_n (pc := 27) (i := 1) (j := 1) (x := v1) dX11_held_27 rfl rfl ?_
      refine pg_bipush (pc := 28) (v := 20) dX11_held_28 (by decide) ?_
      refine pg_iadd (pc := 30) dX11_held_30 ?_
      refine pg_iload (pc := 31) (i := 4) (j := 4) (x := v4) dX11_held_31 rfl ?_
      refine pg_iadd (pc := 33) dX11_held_33 ?_
      refine pg_iald (pc := 34) h0.2.2.2.2.2.2.2.2.2.2.2.2.2.2.1 (b0 c0 c1) dX11_held_34 ?_
      refine pg_if_le (pc := 35) (tgt := 45) dX11_held_35 (by decide) (fun c2 => ?_) (fun c2 => ?_)
      · skip
        refine pg_iconst (pc := 45) (v := 0) dX11_held_45 (by decide) ?_
        refine pg_ior (pc := 46) dX11_held_46 ?_
        refine pg_istore_n (pc := 47) (i := 3) (ls' := [(3, .int (v3 ||| 0)), (0, .ref 207), (1, .int v1), (2, .int v2), (4, .int v4)]) dX11_held_47 rfl (by decide) rfl ?_
        refine pg_iinc (pc := 48) (i := 4) (j := 4) (x := v4) (v := v4 + 1) (ls' := [(4, .int (v4 + 1)), (3, .int (v3 ||| 0)), (0, .ref 207), (1, .int v1), (2, .int v2)]) dX11_held_48 rfl rfl (by decide) rfl ?_
        refine pg_goto (pc := 51) (tgt := 5) dX11_held_51 (by decide) ?_
        refine pg_drop (ks := [2, 3, 4, 1, 0]) (ls' := [(0, .ref 207), (1, .int v1), (2, .int v2), (3, .int (v3 ||| 0)), (4, .int (v4 + 1))]) rfl ?_
        exact k2 c0 c1 c2
      · skip
        refine pg_iconst (pc := 38) (v := 1) dX11_held_38 (by decide) ?_
        refine pg_iload (pc := 39) (i := 4) (j := 4) (x := v4) dX11_held_39 rfl ?_
        refine pg_ishl (pc := 41) dX11_held_41 ?_
        refine pg_goto (pc := 42) (tgt := 46) dX11_held_42 (by decide) ?_
        refine pg_ior (pc := 46) dX11_held_46 ?_
        refine pg_istore_n (pc := 47) (i := 3) (ls' := [(3, .int (v3 ||| ((1 : Int32) <<< (v4 &&& 31)))), (0, .ref 207), (1, .int v1), (2, .int v2), (4, .int v4)]) dX11_held_47 rfl (by decide) rfl ?_
        refine pg_iinc (pc := 48) (i := 4) (j := 4) (x := v4) (v := v4 + 1) (ls' := [(4, .int (v4 + 1)), (3, .int (v3 ||| ((1 : Int32) <<< (v4 &&& 31)))), (0, .ref 207), (1, .int v1), (2, .int v2)]) dX11_held_48 rfl rfl (by decide) rfl ?_
        refine pg_goto (pc := 51) (tgt := 5) dX11_held_51 (by decide) ?_
        refine pg_drop (ks := [2, 3, 4, 1, 0]) (ls' := [(0, .ref 207), (1, .int v1), (2, .int v2), (3, .int (v3 ||| ((1 : Int32) <<< (v4 &&& 31)))), (4, .int (v4 + 1))]) rfl ?_
        exact k3 c0 c1 c2
theorem oX11_held {d : Nat} {v1 : Int32} {v2 : Int32} (h : pg_At S Λ YX11_held d 0 [(0, .ref 207), (1, .int v1), (2, .int v2)] [] M P) : pg_Ev S Λ YX11_held d [.ref 207, .int v1, .int v2] M P := pg_Ev.of (by decide) (by first | decide | exact Nat.le_of_ble_eq_true rfl) h
theorem sX11_pulls_0 {v1 : Int32} {v2 : Int32} {v3 : Int32} {Q0 : Int32 → pg_M → Prop} {Q1 : Int32 → pg_M → Prop} {Q2 : pg_M → Prop} {Q3 : pg_M → Prop} {Q4 : pg_M → Prop} {Q5 : Int32 → pg_M → Prop} {Q6 : pg_M → Prop} {Q7 : pg_M → Prop}
    (h0 : pg_isX11 Λ)
    (b0 : vp_in ((v1 + 14) + v2) 1242)
    (b1 : vp_in ((v1 + 2) + v2) 1242)
    (e0 : pg_Ev S Λ YX11_pullOf d [.ref 207, .int v2, .int (M.1 221 ((v1 + 2) + v2).toNatClampNeg), .int v3] M (fun r M' => ∃ x, r = some (.int x) ∧ Q0 x M'))
    (e1 : ∀ x1 M1, Q0 x1 M1 → pg_Ev S Λ YX11_gripsOf d [.ref 207, .int v1, .int (M.1 221 ((v1 + 14) + v2).toNatClampNeg)] M1 (fun r M' => ∃ x, r = some (.int x) ∧ Q1 x M'))
    (e2 : ∀ x1 M1, Q0 x1 M1 → ∀ x2 M2, Q1 x2 M2 → (x2 < (2 * x1)) → pg_Ev S Λ YX11_loosens d [.ref 207, .int v1, .int (M.1 221 ((v1 + 14) + v2).toNatClampNeg)] M2 (fun r M' => r = none ∧ Q2 M'))
    (e3 : ∀ x1 M1, Q0 x1 M1 → ∀ x2 M2, Q1 x2 M2 → (x2 < (2 * x1)) → ∀ M3, Q2 M3 → (x2 < x1) → (x2 < x1) → pg_Ev S Λ YX11_falls d [.ref 207, .int v1, .int v2] M3 (fun r M' => r = none ∧ Q3 M'))
    (k0 : ∀ x1 M1, Q0 x1 M1 → ∀ x2 M2, Q1 x2 M2 → (x2 < (2 * x1)) → ∀ M3, Q2 M3 → (x2 < x1) → (x2 < x1) → ∀ M4, Q3 M4 → P (some (.int 1)) M4)
    (k1 : ∀ x1 M1, Q0 x1 M1 → ∀ x2 M2, Q1 x2 M2 → (x2 < (2 * x1)) → ∀ M3, Q2 M3 → (x2 < x1) → (¬ x2 < x1) → (¬ (M3.1 221 ((v1 + 14) + v2).toNatClampNeg) = 0) → P (some (.int 0)) M3)
    (e4 : ∀ x1 M1, Q0 x1 M1 → ∀ x2 M2, Q1 x2 M2 → (x2 < (2 * x1)) → ∀ M3, Q2 M3 → (x2 < x1) → (¬ x2 < x1) → ((M3.1 221 ((v1 + 14) + v2).toNatClampNeg) = 0) → pg_Ev S Λ YX11_falls d [.ref 207, .int v1, .int v2] M3 (fun r M' => r = none ∧ Q4 M'))
    (k2 : ∀ x1 M1, Q0 x1 M1 → ∀ x2 M2, Q1 x2 M2 → (x2 < (2 * x1)) → ∀ M3, Q2 M3 → (x2 < x1) → (¬ x2 < x1) → ((M3.1 221 ((v1 + 14) + v2).toNatClampNeg) = 0) → ∀ M5, Q4 M5 → P (some (.int 1)) M5)
    (e5 : ∀ x1 M1, Q0 x1 M1 → ∀ x2 M2, Q1 x2 M2 → (x2 < (2 * x1)) → ∀ M3, Q2 M3 → (¬ x2 < x1) → pg_Ev S Λ YX11_held d [.ref 207, .int v1, .int (M.1 221 ((v1 + 14) + v2).toNatClampNeg)] M3 (fun r M' => ∃ x, r = some (.int x) ∧ Q5 x M'))
    (e6 : ∀ x1 M1, Q0 x1 M1 → ∀ x2 M2, Q1 x2 M2 → (x2 < (2 * x1)) → ∀ M3, Q2 M3 → (¬ x2 < x1) → ∀ x6 M6, Q5 x6 M6 → (x2 < x1) → pg_Ev S Λ YX11_falls d [.ref 207, .int v1, .int v2] (pg_si M6 221 ((v1 + 14) + v2).toNatClampNeg x6) (fun r M' => r = none ∧ Q6 M'))
    (k3 : ∀ x1 M1, Q0 x1 M1 → ∀ x2 M2, Q1 x2 M2 → (x2 < (2 * x1)) → ∀ M3, Q2 M3 → (¬ x2 < x1) → ∀ x6 M6, Q5 x6 M6 → (x2 < x1) → ∀ M7, Q6 M7 → P (some (.int 1)) M7)
    (k4 : ∀ x1 M1, Q0 x1 M1 → ∀ x2 M2, Q1 x2 M2 → (x2 < (2 * x1)) → ∀ M3, Q2 M3 → (¬ x2 < x1) → ∀ x6 M6, Q5 x6 M6 → (¬ x2 < x1) → (¬ ((pg_si M6 221 ((v1 + 14) + v2).toNatClampNeg x6).1 221 ((v1 + 14) + v2).toNatClampNeg) = 0) → P (some (.int 0)) (pg_si M6 221 ((v1 + 14) + v2).toNatClampNeg x6))
    (e7 : ∀ x1 M1, Q0 x1 M1 → ∀ x2 M2, Q1 x2 M2 → (x2 < (2 * x1)) → ∀ M3, Q2 M3 → (¬ x2 < x1) → ∀ x6 M6, Q5 x6 M6 → (¬ x2 < x1) → (((pg_si M6 221 ((v1 + 14) + v2).toNatClampNeg x6).1 221 ((v1 + 14) + v2).toNatClampNeg) = 0) → pg_Ev S Λ YX11_falls d [.ref 207, .int v1, .int v2] (pg_si M6 221 ((v1 + 14) + v2).toNatClampNeg x6) (fun r M' => r = none ∧ Q7 M'))
    (k5 : ∀ x1 M1, Q0 x1 M1 → ∀ x2 M2, Q1 x2 M2 → (x2 < (2 * x1)) → ∀ M3, Q2 M3 → (¬ x2 < x1) → ∀ x6 M6, Q5 x6 M6 → (¬ x2 < x1) → (((pg_si M6 221 ((v1 + 14) + v2).toNatClampNeg x6).1 221 ((v1 + 14) + v2).toNatClampNeg) = 0) → ∀ M8, Q7 M8 → P (some (.int 1)) M8)
    (k6 : ∀ x1 M1, Q0 x1 M1 → ∀ x2 M2, Q1 x2 M2 → (¬ x2 < (2 * x1)) → P (some (.int 0)) M2) :
    pg_At S Λ YX11_pulls (d + 1) 0 [(0, .ref 207), (1, .int v1), (2, .int v2), (3, .int v3)] [] M P := by
  refine pg_aload_n (pc := 0) (i := 0) (j := 0) (x := 207) dX11_pulls_0 rfl rfl ?_
  refine gfX11_113 (pc := 1) rfl h0 dX11_pulls_1 ?_
  refine pg_iload_n (pc := 4) (i := 1) (j := 1) (x := v1) dX11_pulls_4 rfl rfl ?_
  refine pg_bipush (pc := 5) (v := 14) dX11_pulls_5 (by decide) ?_
  refine pg_iadd (pc := 7) dX11_pulls_7 ?_
  refine pg_iload_n (pc := 8) (i := 2) (j := 2) (x := v2) dX11_pulls_8 rfl rfl ?_
  refine pg_iadd (pc := 9) dX11_pulls_9 ?_
  refine pg_iald (pc := 10) h0.2.2.2.2.2.2.2.2.2.2.2.2.2.2.1 b0 dX11_pulls_10 ?_
  refine pg_istore (pc := 11) (i := 4) (ls' := [(4, .int (M.1 221 ((v1 + 14) + v2).toNatClampNeg)), (0, .ref 207), (1, .int v1), (2, .int v2), (3, .int v3)]) dX11_pulls_11 (by decide) rfl ?_
  refine pg_aload_n (pc := 13) (i := 0) (j := 1) (x := 207) dX11_pulls_13 rfl rfl ?_
  refine pg_iload_n (pc := 14) (i := 2) (j := 3) (x := v2) dX11_pulls_14 rfl rfl ?_
  refine pg_aload_n (pc := 15) (i := 0) (j := 1) (x := 207) dX11_pulls_15 rfl rfl ?_
  refine gfX11_113 (pc := 16) rfl h0 dX11_pulls_16 ?_
  refine pg_iload_n (pc := 19) (i := 1) (j := 2) (x := v1) dX11_pulls_19 rfl rfl ?_
  refine pg_iconst (pc := 20) (v := 2) dX11_pulls_20 (by decide) ?_
  refine pg_iadd (pc := 21) dX11_pulls_21 ?_
  refine pg_iload_n (pc := 22) (i := 2) (j := 3) (x := v2) dX11_pulls_22 rfl rfl ?_
  refine pg_iadd (pc := 23) dX11_pulls_23 ?_
  refine pg_iald (pc := 24) h0.2.2.2.2.2.2.2.2.2.2.2.2.2.2.1 b1 dX11_pulls_24 ?_
  refine pg_iload_n (pc := 25) (i := 3) (j := 4) (x := v3) dX11_pulls_25 rfl rfl ?_
  refine pg_callV (pc := 26) (As := [.int v2, .int (M.1 221 ((v1 + 2) + v2).toNatClampNeg), .int v3]) (st := []) okX11_pullOf lkX11_317 rfl h0.1 rfl (Nat.le_refl _) (Nat.le_of_ble_eq_true rfl) e0 dX11_pulls_26 (fun r1 M1 w1 => ?_)
  obtain ⟨x1, rfl, w1⟩ := w1
  refine pg_istore (pc := 29) (i := 5) (ls' := [(5, .int x1), (4, .int (M.1 221 ((v1 + 14) + v2).toNatClampNeg)), (0, .ref 207), (1, .int v1), (2, .int v2), (3, .int v3)]) dX11_pulls_29 (by decide) rfl ?_
  refine pg_aload_n (pc := 31) (i := 0) (j := 2) (x := 207) dX11_pulls_31 rfl rfl ?_
  refine pg_iload_n (pc := 32) (i := 1) (j := 3) (x := v1) dX11_pulls_32 rfl rfl ?_
  refine pg_iload (pc := 33) (i := 4) (j := 1) (x := (M.1 221 ((v1 + 14) + v2).toNatClampNeg)) dX11_pulls_33 rfl ?_
  refine pg_callV (pc := 35) (As := [.int v1, .int (M.1 221 ((v1 + 14) + v2).toNatClampNeg)]) (st := []) okX11_gripsOf lkX11_320 rfl h0.1 rfl (Nat.le_refl _) (Nat.le_of_ble_eq_true rfl) (e1 x1 M1 w1) dX11_pulls_35 (fun r2 M2 w2 => ?_)
  obtain ⟨x2, rfl, w2⟩ := w2
  refine pg_istore (pc := 38) (i := 6) (ls' := [(6, .int x2), (5, .int x1), (4, .int (M.1 221 ((v1 + 14) + v2).toNatClampNeg)), (0, .ref 207), (1, .int v1), (2, .int v2), (3, .int v3)]) dX11_pulls_38 (by decide) rfl ?_
  refine pg_iconst (pc := 40) (v := 2) dX11_pulls_40 (by decide) ?_
  refine pg_iload (pc := 41) (i := 5) (j := 1) (x := x1) dX11_pulls_41 rfl ?_
  refine pg_imul (pc := 43) dX11_pulls_43 ?_
  refine pg_iload (pc := 44) (i := 6) (j := 0) (x := x2) dX11_pulls_44 rfl ?_
  refine pg_icmp_gt (pc := 46) (tgt := 51) dX11_pulls_46 (by decide) (fun c0 => ?_) (fun c0 => ?_)
  · skip
    refine pg_aload_n (pc := 51) (i := 0) (j := 3) (x := 207) dX11_pulls_51 rfl rfl ?_
    refine pg_iload_n (pc := 52) (i := 1) (j := 4) (x := v1) dX11_pulls_52 rfl rfl ?_
    refine pg_iload (pc := 53) (i := 4) (j := 2) (x := (M.1 221 ((v1 + 14) + v2).toNatClampNeg)) dX11_pulls_53 rfl ?_
    refine pg_callV (pc := 55) (As := [.int v1, .int (M.1 221 ((v1 + 14) + v2).toNatClampNeg)]) (st := []) okX11_loosens lkX11_323 rfl h0.1 rfl (Nat.le_refl _) (Nat.le_of_ble_eq_true rfl) (e2 x1 M1 w1 x2 M2 w2 c0) dX11_pulls_55 (fun r3 M3 w3 => ?_)
    obtain ⟨rfl, w3⟩ := w3
    refine pg_iload (pc := 58) (i := 5) (j := 1) (x := x1) dX11_pulls_58 rfl ?_
    refine pg_iload (pc := 60) (i := 6) (j := 0) (x := x2) dX11_pulls_60 rfl ?_
    refine pg_icmp_gt (pc := 62) (tgt := 83) dX11_pulls_62 (by decide) (fun c1 => ?_) (fun c1 => ?_)
    · skip
      refine pg_iload (pc := 83) (i := 5) (j := 1) (x := x1) dX11_pulls_83 rfl ?_
      refine pg_iload (pc := 85) (i := 6) (j := 0) (x := x2) dX11_pulls_85 rfl ?_
      refine pg_icmp_gt (pc := 87) (tgt := 104) dX11_pulls_87 (by decide) (fun c2 => ?_) (fun c2 => ?_)
      · skip
        refine pg_aload_n (pc := 104) (i := 0) (j := 3) (x := 207) dX11_pulls_104 rfl rfl ?_
        refine pg_iload_n (pc := 105) (i := 1) (j := 4) (x := v1) dX11_pulls_105 rfl rfl ?_
        refine pg_iload_n (pc := 106) (i := 2) (j := 5) (x := v2) dX11_pulls_106 rfl rfl ?_
        refine pg_callV (pc := 107) (As := [.int v1, .int v2]) (st := []) okX11_falls lkX11_329 rfl h0.1 rfl (Nat.le_refl _) (Nat.le_of_ble_eq_true rfl) (e3 x1 M1 w1 x2 M2 w2 c0 M3 w3 c1 c2) dX11_pulls_107 (fun r4 M4 w4 => ?_)
        obtain ⟨rfl, w4⟩ := w4
        refine pg_iconst (pc := 110) (v := 1) dX11_pulls_110 (by decide) ?_
        exact pg_zret (pc := 111) rfl rfl dX11_pulls_111 (k0 x1 M1 w1 x2 M2 w2 c0 M3 w3 c1 c2 M4 w4)
      · skip
        refine pg_aload_n (pc := 90) (i := 0) (j := 3) (x := 207) dX11_pulls_90 rfl rfl ?_
        refine gfX11_113 (pc := 91) rfl h0 dX11_pulls_91 ?_
        refine pg_iload_n (pc := 94) (i := 1) (j := 4) (x := v1) dX11_pulls_94 rfl rfl ?_
        refine pg_bipush (pc := 95) (v := 14) dX11_pulls_95 (by decide) ?_
        refine pg_iadd (pc := 97) dX11_pulls_97 ?_
        refine pg_iload_n (pc := 98) (i := 2) (j := 5) (x := v2) dX11_pulls_98 rfl rfl ?_
        refine pg_iadd (pc := 99) dX11_pulls_99 ?_
        refine pg_iald (pc := 100) h0.2.2.2.2.2.2.2.2.2.2.2.2.2.2.1 b0 dX11_pulls_100 ?_
        refine pg_if_ne (pc := 101) (tgt := 112) dX11_pulls_101 (by decide) (fun c3 => ?_) (fun c3 => ?_)
        · skip
          refine pg_iconst (pc := 112) (v := 0) dX11_pulls_112 (by decide) ?_
          exact pg_zret (pc := 113) rfl rfl dX11_pulls_113 (k1 x1 M1 w1 x2 M2 w2 c0 M3 w3 c1 c2 c3)
        · skip
          refine pg_aload_n (pc := 104) (i := 0) (j := 3) (x := 207) dX11_pulls_104 rfl rfl ?_
          refine pg_iload_n (pc := 105) (i := 1) (j := 4) (x := v1) dX11_pulls_105 rfl rfl ?_
          refine pg_iload_n (pc := 106) (i := 2) (j := 5) (x := v2) dX11_pulls_106 rfl rfl ?_
          refine pg_callV (pc := 107) (As := [.int v1, .int v2]) (st := []) okX11_falls lkX11_329 rfl h0.1 rfl (Nat.le_refl _) (Nat.le_of_ble_eq_true rfl) (e4 x1 M1 w1 x2 M2 w2 c0 M3 w3 c1 c2 c3) dX11_pulls_107 (fun r5 M5 w5 => ?_)
          obtain ⟨rfl, w5⟩ := w5
          refine pg_iconst (pc := 110) (v := 1) dX11_pulls_110 (by decide) ?_
          exact pg_zret (pc := 111) rfl rfl dX11_pulls_111 (k2 x1 M1 w1 x2 M2 w2 c0 M3 w3 c1 c2 c3 M5 w5)
    · skip
      refine pg_aload_n (pc := 65) (i := 0) (j := 3) (x := 207) dX11_pulls_65 rfl rfl ?_
      refine gfX11_113 (pc := 66) rfl h0 dX11_pulls_66 ?_
      refine pg_iload_n (pc := 69) (i := 1) (j := 4) (x := v1) dX11_pulls_69 rfl rfl ?_
      refine pg_bipush (pc := 70) (v := 14) dX11_pulls_70 (by decide) ?_
      refine pg_iadd (pc := 72) dX11_pulls_72 ?_
      refine pg_iload_n (pc := 73) (i := 2) (j := 5) (x := v2) dX11_pulls_73 rfl rfl ?_
      refine pg_iadd (pc := 74) dX11_pulls_74 ?_
      refine pg_aload_n (pc := 75) (i := 0) (j := 3) (x := 207) dX11_pulls_75 rfl rfl ?_
      refine pg_iload_n (pc := 76) (i := 1) (j := 4) (x := v1) dX11_pulls_76 rfl rfl ?_
      refine pg_iload (pc := 77) (i := 4) (j := 2) (x := (M.1 221 ((v1 + 14) + v2).toNatClampNeg)) dX11_pulls_77 rfl ?_
      refine pg_callV (pc := 79) (As := [.int v1, .int (M.1 221 ((v1 + 14) + v2).toNatClampNeg)]) (st := [.int ((v1 + 14) + v2), .ref 221]) okX11_held lkX11_326 rfl h0.1 rfl (Nat.le_refl _) (Nat.le_of_ble_eq_true rfl) (e5 x1 M1 w1 x2 M2 w2 c0 M3 w3 c1) dX11_pulls_79 (fun r6 M6 w6 => ?_)
      obtain ⟨x6, rfl, w6⟩ := w6
      refine pg_iast (pc := 82) h0.2.2.2.2.2.2.2.2.2.2.2.2.2.2.1 b0 dX11_pulls_82 ?_
      refine pg_iload (pc := 83) (i := 5) (j := 1) (x := x1) dX11_pulls_83 rfl ?_
      refine pg_iload (pc := 85) (i := 6) (j := 0) (x := x2) dX11_pulls_85 rfl ?_
      refine pg_icmp_gt (pc := 87) (tgt := 104) dX11_pulls_87 (by decide) (fun c2 => ?_) (fun c2 => ?_)
      · skip
        refine pg_aload_n (pc := 104) (i := 0) (j := 3) (x := 207) dX11_pulls_104 rfl rfl ?_
        refine pg_iload_n (pc := 105) (i := 1) (j := 4) (x := v1) dX11_pulls_105 rfl rfl ?_
        refine pg_iload_n (pc := 106) (i := 2) (j := 5) (x := v2) dX11_pulls_106 rfl rfl ?_
        refine pg_callV (pc := 107) (As := [.int v1, .int v2]) (st := []) okX11_falls lkX11_329 rfl h0.1 rfl (Nat.le_refl _) (Nat.le_of_ble_eq_true rfl) (e6 x1 M1 w1 x2 M2 w2 c0 M3 w3 c1 x6 M6 w6 c2) dX11_pulls_107 (fun r7 M7 w7 => ?_)
        obtain ⟨rfl, w7⟩ := w7
        refine pg_iconst (pc := 110) (v := 1) dX11_pulls_110 (by decide) ?_
        exact pg_zret (pc := 111) rfl rfl dX11_pulls_111 (k3 x1 M1 w1 x2 M2 w2 c0 M3 w3 c1 x6 M6 w6 c2 M7 w7)
      · skip
        refine pg_aload_n (pc := 90) (i := 0) (j := 3) (x := 207) dX11_pulls_90 rfl rfl ?_
        refine gfX11_113 (pc := 91) rfl h0 dX11_pulls_91 ?_
        refine pg_iload_n (pc := 94) (i := 1) (j := 4) (x := v1) dX11_pulls_94 rfl rfl ?_
        refine pg_bipush (pc := 95) (v := 14) dX11_pulls_95 (by decide) ?_
        refine pg_iadd (pc := 97) dX11_pulls_97 ?_
        refine pg_iload_n (pc := 98) (i := 2) (j := 5) (x := v2) dX11_pulls_98 rfl rfl ?_
        refine pg_iadd (pc := 99) dX11_pulls_99 ?_
        refine pg_iald (pc := 100) h0.2.2.2.2.2.2.2.2.2.2.2.2.2.2.1 b0 dX11_pulls_100 ?_
        refine pg_if_ne (pc := 101) (tgt := 112) dX11_pulls_101 (by decide) (fun c3 => ?_) (fun c3 => ?_)
        · skip
          refine pg_iconst (pc := 112) (v := 0) dX11_pulls_112 (by decide) ?_
          exact pg_zret (pc := 113) rfl rfl dX11_pulls_113 (k4 x1 M1 w1 x2 M2 w2 c0 M3 w3 c1 x6 M6 w6 c2 c3)
        · skip
          refine pg_aload_n (pc := 104) (i := 0) (j := 3) (x := 207) dX11_pulls_104 rfl rfl ?_
          refine pg_iload_n (pc := 105) (i := 1) (j := 4) (x := v1) dX11_pulls_105 rfl rfl ?_
          refine pg_iload_n (pc := 106) (i := 2) (j := 5) (x := v2) dX11_pulls_106 rfl rfl ?_
          refine pg_callV (pc := 107) (As := [.int v1, .int v2]) (st := []) okX11_falls lkX11_329 rfl h0.1 rfl (Nat.le_refl _) (Nat.le_of_ble_eq_true rfl) (e7 x1 M1 w1 x2 M2 w2 c0 M3 w3 c1 x6 M6 w6 c2 c3) dX11_pulls_107 (fun r8 M8 w8 => ?_)
          obtain ⟨rfl, w8⟩ := w8
          refine pg_iconst (pc := 110) (v := 1) dX11_pulls_110 (by decide) ?_
          exact pg_zret (pc := 111) rfl rfl dX11_pulls_111 (k5 x1 M1 w1 x2 M2 w2 c0 M3 w3 c1 x6 M6 w6 c2 c3 M8 w8)
  · skip
    refine pg_iconst (pc := 49) (v := 0) dX11_pulls_49 (by decide) ?_
    exact pg_zret (pc := 50) rfl rfl dX11_pulls_50 (k6 x1 M1 w1 x2 M2 w2 c0)
theorem oX11_pulls {d : Nat} {v1 : Int32} {v2 : Int32} {v3 : Int32} (h : pg_At S Λ YX11_pulls d 0 [(0, .ref 207), (1, .int v1), (2, .int v2), (3, .int v3)] [] M P) : pg_Ev S Λ YX11_pulls d [.ref 207, .int v1, .int v2, .int v3] M P := pg_Ev.of (by decide) (by first | decide | exact Nat.le_of_ble_eq_true rfl) h
theorem sX11_passes_0 {v1 : Int32} {v2 : Int32} {Q0 : Int32 → pg_M → Prop}
    (h0 : pg_isX11 Λ)
    (b0 : vp_in (v1 + 0) 1242)
    (e0 : pg_Ev S Λ YX11_windOf d [.ref 207, .int (M.1 221 (v1 + 0).toNatClampNeg), .int v2] M (fun r M' => ∃ x, r = some (.int x) ∧ Q0 x M'))
    (k0 : ∀ x1 M1, Q0 x1 M1 → pg_At S Λ YX11_passes (d + 1) 20 [(0, .ref 207), (1, .int v1), (3, .int x1), (4, .int 0), (5, .int 0)] [] M1 P) :
    pg_At S Λ YX11_passes (d + 1) 0 [(0, .ref 207), (1, .int v1), (2, .int v2)] [] M P := by
  refine pg_aload_n (pc := 0) (i := 0) (j := 0) (x := 207) dX11_passes_0 rfl rfl ?_
  refine pg_aload_n (pc := 1) (i := 0) (j := 0) (x := 207) dX11_passes_1 rfl rfl ?_
  refine gfX11_113 (pc := 2) rfl h0 dX11_passes_2 ?_
  refine pg_iload_n (pc := 5) (i := 1) (j := 1) (x := v1) dX11_passes_5 rfl rfl ?_
  refine pg_iconst (pc := 6) (v := 0) dX11_passes_6 (by decide) ?_
  refine pg_iadd (pc := 7) dX11_passes_7 ?_
  refine pg_iald (pc := 8) h0.2.2.2.2.2.2.2.2.2.2.2.2.2.2.1 b0 dX11_passes_8 ?_
  refine pg_iload_n (pc := 9) (i := 2) (j := 2) (x := v2) dX11_passes_9 rfl rfl ?_
  refine pg_callV (pc := 10) (As := [.int (M.1 221 (v1 + 0).toNatClampNeg), .int v2]) (st := []) okX11_windOf lkX11_332 rfl h0.1 rfl (Nat.le_refl _) (Nat.le_of_ble_eq_true rfl) e0 dX11_passes_10 (fun r1 M1 w1 => ?_)
  obtain ⟨x1, rfl, w1⟩ := w1
  refine pg_istore_n (pc := 13) (i := 3) (ls' := [(3, .int x1), (0, .ref 207), (1, .int v1), (2, .int v2)]) dX11_passes_13 rfl (by decide) rfl ?_
  refine pg_iconst (pc := 14) (v := 0) dX11_passes_14 (by decide) ?_
  refine pg_istore (pc := 15) (i := 4) (ls' := [(4, .int 0), (3, .int x1), (0, .ref 207), (1, .int v1), (2, .int v2)]) dX11_passes_15 (by decide) rfl ?_
  refine pg_iconst (pc := 17) (v := 0) dX11_passes_17 (by decide) ?_
  refine pg_istore (pc := 18) (i := 5) (ls' := [(5, .int 0), (4, .int 0), (3, .int x1), (0, .ref 207), (1, .int v1), (2, .int v2)]) dX11_passes_18 (by decide) rfl ?_
  refine pg_drop (ks := [3, 4, 2, 1, 0]) (ls' := [(0, .ref 207), (1, .int v1), (3, .int x1), (4, .int 0), (5, .int 0)]) rfl ?_
  exact k0 x1 M1 w1
theorem sX11_passes_20 {v1 : Int32} {v3 : Int32} {v4 : Int32} {v5 : Int32} {Q0 : Int32 → pg_M → Prop} {Q1 : Int32 → pg_M → Prop} {Q2 : Int32 → pg_M → Prop}
    (h0 : pg_isX11 Λ)
    (e0 : pg_Ev S Λ YX11_cloths d [.ref 207] M (fun r M' => ∃ x, r = some (.int x) ∧ Q0 x M'))
    (k0 : ∀ x1 M1, Q0 x1 M1 → (x1 ≤ v5) → pg_At S Λ YX11_passes (d + 1) 69 [(0, .ref 207), (1, .int v1), (3, .int v3), (4, .int v4), (5, .int 0)] [] M1 P)
    (e1 : ∀ x1 M1, Q0 x1 M1 → (¬ x1 ≤ v5) → pg_Ev S Λ YX11_isHung d [.ref 207, .int v1, .int v5] M1 (fun r M' => ∃ x, r = some (.int x) ∧ Q1 x M'))
    (k1 : ∀ x1 M1, Q0 x1 M1 → (¬ x1 ≤ v5) → ∀ x2 M2, Q1 x2 M2 → (x2 = 0) → pg_At S Λ YX11_passes (d + 1) 20 [(0, .ref 207), (1, .int v1), (3, .int v3), (4, .int v4), (5, .int (v5 + 1))] [] M2 P)
    (e2 : ∀ x1 M1, Q0 x1 M1 → (¬ x1 ≤ v5) → ∀ x2 M2, Q1 x2 M2 → (¬ x2 = 0) → pg_Ev S Λ YX11_pulls d [.ref 207, .int v1, .int v5, .int v3] M2 (fun r M' => ∃ x, r = some (.int x) ∧ Q2 x M'))
    (k2 : ∀ x1 M1, Q0 x1 M1 → (¬ x1 ≤ v5) → ∀ x2 M2, Q1 x2 M2 → (¬ x2 = 0) → ∀ x3 M3, Q2 x3 M3 → (x3 = 0) → pg_At S Λ YX11_passes (d + 1) 20 [(0, .ref 207), (1, .int v1), (3, .int v3), (4, .int (v4 + 0)), (5, .int (v5 + 1))] [] M3 P)
    (k3 : ∀ x1 M1, Q0 x1 M1 → (¬ x1 ≤ v5) → ∀ x2 M2, Q1 x2 M2 → (¬ x2 = 0) → ∀ x3 M3, Q2 x3 M3 → (¬ x3 = 0) → pg_At S Λ YX11_passes (d + 1) 20 [(0, .ref 207), (1, .int v1), (3, .int v3), (4, .int (v4 + 1)), (5, .int (v5 + 1))] [] M3 P) :
    pg_At S Λ YX11_passes (d + 1) 20 [(0, .ref 207), (1, .int v1), (3, .int v3), (4, .int v4), (5, .int v5)] [] M P := by
  refine pg_iload (pc := 20) (i := 5) (j := 4) (x := v5) dX11_passes_20 rfl ?_
  refine pg_aload_n (pc := 22) (i := 0) (j := 0) (x := 207) dX11_passes_22 rfl rfl ?_
  refine pg_callV (pc := 23) (As := []) (st := [.int v5]) okX11_cloths lkX11_292 rfl h0.1 rfl (Nat.le_refl _) (Nat.le_of_ble_eq_true rfl) e0 dX11_passes_23 (fun r1 M1 w1 => ?_)
  obtain ⟨x1, rfl, w1⟩ := w1
  refine pg_icmp_ge (pc := 26) (tgt := 66) dX11_passes_26 (by decide) (fun c0 => ?_) (fun c0 => ?_)
  · skip
    refine pg_iconst (pc := 66) (v := 0) dX11_passes_66 (by decide) ?_
    refine pg_istore (pc := 67) (i := 5) (ls' := [(5, .int 0), (0, .ref 207), (1, .int v1), (3, .int v3), (4, .int v4)]) dX11_passes_67 (by decide) rfl ?_
    refine pg_drop (ks := [1, 2, 3, 4, 0]) (ls' := [(0, .ref 207), (1, .int v1), (3, .int v3), (4, .int v4), (5, .int 0)]) rfl ?_
    exact k0 x1 M1 w1 c0
  · skip
    refine pg_aload_n (pc := 29) (i := 0) (j := 0) (x := 207) dX11_passes_29 rfl rfl ?_
    refine pg_iload_n (pc := 30) (i := 1) (j := 1) (x := v1) dX11_passes_30 rfl rfl ?_
    refine pg_iload (pc := 31) (i := 5) (j := 4) (x := v5) dX11_passes_31 rfl ?_
    refine pg_callV (pc := 33) (As := [.int v1, .int v5]) (st := []) okX11_isHung lkX11_304 rfl h0.1 rfl (Nat.le_refl _) (Nat.le_of_ble_eq_true rfl) (e1 x1 M1 w1 c0) dX11_passes_33 (fun r2 M2 w2 => ?_)
    obtain ⟨x2, rfl, w2⟩ := w2
    refine pg_if_eq (pc := 36) (tgt := 60) dX11_passes_36 (by decide) (fun c1 => ?_) (fun c1 => ?_)
    · skip
      refine pg_iinc (pc := 60) (i := 5) (j := 4) (x := v5) (v := v5 + 1) (ls' := [(5, .int (v5 + 1)), (0, .ref 207), (1, .int v1), (3, .int v3), (4, .int v4)]) dX11_passes_60 rfl rfl (by decide) rfl ?_
      refine pg_goto (pc := 63) (tgt := 20) dX11_passes_63 (by decide) ?_
      refine pg_drop (ks := [1, 2, 3, 4, 0]) (ls' := [(0, .ref 207), (1, .int v1), (3, .int v3), (4, .int v4), (5, .int (v5 + 1))]) rfl ?_
      exact k1 x1 M1 w1 c0 x2 M2 w2 c1
    · skip
      refine pg_iload (pc := 39) (i := 4) (j := 3) (x := v4) dX11_passes_39 rfl ?_
      refine pg_aload_n (pc := 41) (i := 0) (j := 0) (x := 207) dX11_passes_41 rfl rfl ?_
      refine pg_iload_n (pc := 42) (i := 1) (j := 1) (x := v1) dX11_passes_42 rfl rfl ?_
      refine pg_iload (pc := 43) (i := 5) (j := 4) (x := v5) dX11_passes_43 rfl ?_
      refine pg_iload_n (pc := 45) (i := 3) (j := 2) (x := v3) dX11_passes_45 rfl rfl ?_
      refine pg_callV (pc := 46) (As := [.int v1, .int v5, .int v3]) (st := [.int v4]) okX11_pulls lkX11_336 rfl h0.1 rfl (Nat.le_refl _) (Nat.le_of_ble_eq_true rfl) (e2 x1 M1 w1 c0 x2 M2 w2 c1) dX11_passes_46 (fun r3 M3 w3 => ?_)
      obtain ⟨x3, rfl, w3⟩ := w3
      refine pg_if_eq (pc := 49) (tgt := 56) dX11_passes_49 (by decide) (fun c2 => ?_) (fun c2 => ?_)
      · skip
        refine pg_iconst (pc := 56) (v := 0) dX11_passes_56 (by decide) ?_
        refine pg_iadd (pc := 57) dX11_passes_57 ?_
        refine pg_istore (pc := 58) (i := 4) (ls' := [(4, .int (v4 + 0)), (0, .ref 207), (1, .int v1), (3, .int v3), (5, .int v5)]) dX11_passes_58 (by decide) rfl ?_
        refine pg_iinc (pc := 60) (i := 5) (j := 4) (x := v5) (v := v5 + 1) (ls' := [(5, .int (v5 + 1)), (4, .int (v4 + 0)), (0, .ref 207), (1, .int v1), (3, .int v3)]) dX11_passes_60 rfl rfl (by decide) rfl ?_
        refine pg_goto (pc := 63) (tgt := 20) dX11_passes_63 (by decide) ?_
        refine pg_drop (ks := [2, 3, 4, 1, 0]) (ls' := [(0, .ref 207), (1, .int v1), (3, .int v3), (4, .int (v4 + 0)), (5, .int (v5 + 1))]) rfl ?_
        exact k2 x1 M1 w1 c0 x2 M2 w2 c1 x3 M3 w3 c2
      · skip
        refine pg_iconst (pc := 52) (v := 1) dX11_passes_52 (by decide) ?_
        refine pg_goto (pc := 53) (tgt := 57) dX11_passes_53 (by decide) ?_
        refine pg_iadd (pc := 57) dX11_passes_57 ?_
        refine pg_istore (pc := 58) (i := 4) (ls' := [(4, .int (v4 + 1)), (0, .ref 207), (1, .int v1), (3, .int v3), (5, .int v5)]) dX11_passes_58 (by decide) rfl ?_
        refine pg_iinc (pc := 60) (i := 5) (j := 4) (x := v5) (v := v5 + 1) (ls' := [(5, .int (v5 + 1)), (4, .int (v4 + 1)), (0, .ref 207), (1, .int v1), (3, .int v3)]) dX11_passes_60 rfl rfl (by decide) rfl ?_
        refine pg_goto (pc := 63) (tgt := 20) dX11_passes_63 (by decide) ?_
        refine pg_drop (ks := [2, 3, 4, 1, 0]) (ls' := [(0, .ref 207), (1, .int v1), (3, .int v3), (4, .int (v4 + 1)), (5, .int (v5 + 1))]) rfl ?_
        exact k3 x1 M1 w1 c0 x2 M2 w2 c1 x3 M3 w3 c2
theorem sX11_passes_69 {v1 : Int32} {v3 : Int32} {v4 : Int32} {v5 : Int32} {Q0 : Int32 → pg_M → Prop} {Q1 : Int32 → pg_M → Prop} {Q2 : Int32 → pg_M → Prop}
    (h0 : pg_isX11 Λ)
    (e0 : pg_Ev S Λ YX11_cloths d [.ref 207] M (fun r M' => ∃ x, r = some (.int x) ∧ Q0 x M'))
    (b0 : ∀ x1 M1, Q0 x1 M1 → (x1 ≤ v5) → vp_in (v1 + 0) 1242)
    (k0 : ∀ x1 M1, Q0 x1 M1 → (x1 ≤ v5) → P (some (.int v4)) (pg_si M1 221 (v1 + 0).toNatClampNeg ((M1.1 221 (v1 + 0).toNatClampNeg) + 1)))
    (e1 : ∀ x1 M1, Q0 x1 M1 → (¬ x1 ≤ v5) → pg_Ev S Λ YX11_isHung d [.ref 207, .int v1, .int v5] M1 (fun r M' => ∃ x, r = some (.int x) ∧ Q1 x M'))
    (k1 : ∀ x1 M1, Q0 x1 M1 → (¬ x1 ≤ v5) → ∀ x2 M2, Q1 x2 M2 → (x2 = 0) → pg_At S Λ YX11_passes (d + 1) 69 [(0, .ref 207), (1, .int v1), (3, .int v3), (4, .int v4), (5, .int (v5 + 1))] [] M2 P)
    (b1 : ∀ x1 M1, Q0 x1 M1 → (¬ x1 ≤ v5) → ∀ x2 M2, Q1 x2 M2 → (¬ x2 = 0) → vp_in ((v1 + 2) + v5) 1242)
    (e2 : ∀ x1 M1, Q0 x1 M1 → (¬ x1 ≤ v5) → ∀ x2 M2, Q1 x2 M2 → (¬ x2 = 0) → pg_Ev S Λ YX11_driedOf d [.ref 207, .int v5, .int (M2.1 221 ((v1 + 2) + v5).toNatClampNeg), .int v3] M2 (fun r M' => ∃ x, r = some (.int x) ∧ Q2 x M'))
    (k2 : ∀ x1 M1, Q0 x1 M1 → (¬ x1 ≤ v5) → ∀ x2 M2, Q1 x2 M2 → (¬ x2 = 0) → ∀ x3 M3, Q2 x3 M3 → pg_At S Λ YX11_passes (d + 1) 69 [(0, .ref 207), (1, .int v1), (3, .int v3), (4, .int v4), (5, .int (v5 + 1))] [] (pg_si M3 221 ((v1 + 2) + v5).toNatClampNeg x3) P) :
    pg_At S Λ YX11_passes (d + 1) 69 [(0, .ref 207), (1, .int v1), (3, .int v3), (4, .int v4), (5, .int v5)] [] M P := by
  refine pg_iload (pc := 69) (i := 5) (j := 4) (x := v5) dX11_passes_69 rfl ?_
  refine pg_aload_n (pc := 71) (i := 0) (j := 0) (x := 207) dX11_passes_71 rfl rfl ?_
  refine pg_callV (pc := 72) (As := []) (st := [.int v5]) okX11_cloths lkX11_292 rfl h0.1 rfl (Nat.le_refl _) (Nat.le_of_ble_eq_true rfl) e0 dX11_passes_72 (fun r1 M1 w1 => ?_)
  obtain ⟨x1, rfl, w1⟩ := w1
  refine pg_icmp_ge (pc := 75) (tgt := 123) dX11_passes_75 (by decide) (fun c0 => ?_) (fun c0 => ?_)
  · skip
    refine pg_aload_n (pc := 123) (i := 0) (j := 0) (x := 207) dX11_passes_123 rfl rfl ?_
    refine gfX11_113 (pc := 124) rfl h0 dX11_passes_124 ?_
    refine pg_iload_n (pc := 127) (i := 1) (j := 1) (x := v1) dX11_passes_127 rfl rfl ?_
    refine pg_iconst (pc := 128) (v := 0) dX11_passes_128 (by decide) ?_
    refine pg_iadd (pc := 129) dX11_passes_129 ?_
    refine pg_dup2_11 (pc := 130) dX11_passes_130 rfl rfl ?_
    refine pg_iald (pc := 131) h0.2.2.2.2.2.2.2.2.2.2.2.2.2.2.1 (b0 x1 M1 w1 c0) dX11_passes_131 ?_
    refine pg_iconst (pc := 132) (v := 1) dX11_passes_132 (by decide) ?_
    refine pg_iadd (pc := 133) dX11_passes_133 ?_
    refine pg_iast (pc := 134) h0.2.2.2.2.2.2.2.2.2.2.2.2.2.2.1 (b0 x1 M1 w1 c0) dX11_passes_134 ?_
    refine pg_iload (pc := 135) (i := 4) (j := 3) (x := v4) dX11_passes_135 rfl ?_
    exact pg_iret (pc := 137) rfl dX11_passes_137 (k0 x1 M1 w1 c0)
  · skip
    refine pg_aload_n (pc := 78) (i := 0) (j := 0) (x := 207) dX11_passes_78 rfl rfl ?_
    refine pg_iload_n (pc := 79) (i := 1) (j := 1) (x := v1) dX11_passes_79 rfl rfl ?_
    refine pg_iload (pc := 80) (i := 5) (j := 4) (x := v5) dX11_passes_80 rfl ?_
    refine pg_callV (pc := 82) (As := [.int v1, .int v5]) (st := []) okX11_isHung lkX11_304 rfl h0.1 rfl (Nat.le_refl _) (Nat.le_of_ble_eq_true rfl) (e1 x1 M1 w1 c0) dX11_passes_82 (fun r2 M2 w2 => ?_)
    obtain ⟨x2, rfl, w2⟩ := w2
    refine pg_if_eq (pc := 85) (tgt := 117) dX11_passes_85 (by decide) (fun c1 => ?_) (fun c1 => ?_)
    · skip
      refine pg_iinc (pc := 117) (i := 5) (j := 4) (x := v5) (v := v5 + 1) (ls' := [(5, .int (v5 + 1)), (0, .ref 207), (1, .int v1), (3, .int v3), (4, .int v4)]) dX11_passes_117 rfl rfl (by decide) rfl ?_
      refine pg_goto (pc := 120) (tgt := 69) dX11_passes_120 (by decide) ?_
      refine pg_drop (ks := [1, 2, 3, 4, 0]) (ls' := [(0, .ref 207), (1, .int v1), (3, .int v3), (4, .int v4), (5, .int (v5 + 1))]) rfl ?_
      exact k1 x1 M1 w1 c0 x2 M2 w2 c1
    · skip
      refine pg_aload_n (pc := 88) (i := 0) (j := 0) (x := 207) dX11_passes_88 rfl rfl ?_
      refine gfX11_113 (pc := 89) rfl h0 dX11_passes_89 ?_
      refine pg_iload_n (pc := 92) (i := 1) (j := 1) (x := v1) dX11_passes_92 rfl rfl ?_
      refine pg_iconst (pc := 93) (v := 2) dX11_passes_93 (by decide) ?_
      refine pg_iadd (pc := 94) dX11_passes_94 ?_
      refine pg_iload (pc := 95) (i := 5) (j := 4) (x := v5) dX11_passes_95 rfl ?_
      refine pg_iadd (pc := 97) dX11_passes_97 ?_
      refine pg_aload_n (pc := 98) (i := 0) (j := 0) (x := 207) dX11_passes_98 rfl rfl ?_
      refine pg_iload (pc := 99) (i := 5) (j := 4) (x := v5) dX11_passes_99 rfl ?_
      refine pg_aload_n (pc := 101) (i := 0) (j := 0) (x := 207) dX11_passes_101 rfl rfl ?_
      refine gfX11_113 (pc := 102) rfl h0 dX11_passes_102 ?_
      refine pg_iload_n (pc := 105) (i := 1) (j := 1) (x := v1) dX11_passes_105 rfl rfl ?_
      refine pg_iconst (pc := 106) (v := 2) dX11_passes_106 (by decide) ?_
      refine pg_iadd (pc := 107) dX11_passes_107 ?_
      refine pg_iload (pc := 108) (i := 5) (j := 4) (x := v5) dX11_passes_108 rfl ?_
      refine pg_iadd (pc := 110) dX11_passes_110 ?_
      refine pg_iald (pc := 111) h0.2.2.2.2.2.2.2.2.2.2.2.2.2.2.1 (b1 x1 M1 w1 c0 x2 M2 w2 c1) dX11_passes_111 ?_
      refine pg_iload_n (pc := 112) (i := 3) (j := 2) (x := v3) dX11_passes_112 rfl rfl ?_
      refine pg_callV (pc := 113) (As := [.int v5, .int (M2.1 221 ((v1 + 2) + v5).toNatClampNeg), .int v3]) (st := [.int ((v1 + 2) + v5), .ref 221]) okX11_driedOf lkX11_340 rfl h0.1 rfl (Nat.le_refl _) (Nat.le_of_ble_eq_true rfl) (e2 x1 M1 w1 c0 x2 M2 w2 c1) dX11_passes_113 (fun r3 M3 w3 => ?_)
      obtain ⟨x3, rfl, w3⟩ := w3
      refine pg_iast (pc := 116) h0.2.2.2.2.2.2.2.2.2.2.2.2.2.2.1 (b1 x1 M1 w1 c0 x2 M2 w2 c1) dX11_passes_116 ?_
      refine pg_iinc (pc := 117) (i := 5) (j := 4) (x := v5) (v := v5 + 1) (ls' := [(5, .int (v5 + 1)), (0, .ref 207), (1, .int v1), (3, .int v3), (4, .int v4)]) dX11_passes_117 rfl rfl (by decide) rfl ?_
      refine pg_goto (pc := 120) (tgt := 69) dX11_passes_120 (by decide) ?_
      refine pg_drop (ks := [1, 2, 3, 4, 0]) (ls' := [(0, .ref 207), (1, .int v1), (3, .int v3), (4, .int v4), (5, .int (v5 + 1))]) rfl ?_
      exact k2 x1 M1 w1 c0 x2 M2 w2 c1 x3 M3 w3
theorem oX11_passes {d : Nat} {v1 : Int32} {v2 : Int32} (h : pg_At S Λ YX11_passes d 0 [(0, .ref 207), (1, .int v1), (2, .int v2)] [] M P) : pg_Ev S Λ YX11_passes d [.ref 207, .int v1, .int v2] M P := pg_Ev.of (by decide) (by first | decide | exact Nat.le_of_ble_eq_true rfl) h
theorem sX11_lawsOf_0 {v1 : Int32} 
    (k0 : pg_At S Λ YX11_lawsOf (d + 1) 4 [(0, .ref 207), (1, .int v1), (2, .int 0), (3, .int 0)] [] M P) :
    pg_At S Λ YX11_lawsOf (d + 1) 0 [(0, .ref 207), (1, .int v1)] [] M P := by
  refine pg_iconst (pc := 0) (v := 0) dX11_lawsOf_0 (by decide) ?_
  refine pg_istore_n (pc := 1) (i := 2) (ls' := [(2, .int 0), (0, .ref 207), (1, .int v1)]) dX11_lawsOf_1 rfl (by decide) rfl ?_
  refine pg_iconst (pc := 2) (v := 0) dX11_lawsOf_2 (by decide) ?_
  refine pg_istore_n (pc := 3) (i := 3) (ls' := [(3, .int 0), (2, .int 0), (0, .ref 207), (1, .int v1)]) dX11_lawsOf_3 rfl (by decide) rfl ?_
  refine pg_drop (ks := [2, 3, 1, 0]) (ls' := [(0, .ref 207), (1, .int v1), (2, .int 0), (3, .int 0)]) rfl ?_
  exact k0
theorem sX11_lawsOf_4 {v1 : Int32} {v2 : Int32} {v3 : Int32} {Q0 : Int32 → pg_M → Prop} {Q1 : Int32 → pg_M → Prop}
    (h0 : pg_isX11 Λ)
    (e0 : pg_Ev S Λ YX11_cloths d [.ref 207] M (fun r M' => ∃ x, r = some (.int x) ∧ Q0 x M'))
    (k0 : ∀ x1 M1, Q0 x1 M1 → (x1 ≤ v3) → P (some (.int v2)) M1)
    (e1 : ∀ x1 M1, Q0 x1 M1 → (¬ x1 ≤ v3) → pg_Ev S Λ YX11_isLaw d [.ref 207, .int v1, .int v3] M1 (fun r M' => ∃ x, r = some (.int x) ∧ Q1 x M'))
    (k1 : ∀ x1 M1, Q0 x1 M1 → (¬ x1 ≤ v3) → ∀ x2 M2, Q1 x2 M2 → (x2 = 0) → pg_At S Λ YX11_lawsOf (d + 1) 4 [(0, .ref 207), (1, .int v1), (2, .int (v2 ||| 0)), (3, .int (v3 + 1))] [] M2 P)
    (k2 : ∀ x1 M1, Q0 x1 M1 → (¬ x1 ≤ v3) → ∀ x2 M2, Q1 x2 M2 → (¬ x2 = 0) → pg_At S Λ YX11_lawsOf (d + 1) 4 [(0, .ref 207), (1, .int v1), (2, .int (v2 ||| ((1 : Int32) <<< (v3 &&& 31)))), (3, .int (v3 + 1))] [] M2 P) :
    pg_At S Λ YX11_lawsOf (d + 1) 4 [(0, .ref 207), (1, .int v1), (2, .int v2), (3, .int v3)] [] M P := by
  refine pg_iload_n (pc := 4) (i := 3) (j := 3) (x := v3) dX11_lawsOf_4 rfl rfl ?_
  refine pg_aload_n (pc := 5) (i := 0) (j := 0) (x := 207) dX11_lawsOf_5 rfl rfl ?_
  refine pg_callV (pc := 6) (As := []) (st := [.int v3]) okX11_cloths lkX11_292 rfl h0.1 rfl (Nat.le_refl _) (Nat.le_of_ble_eq_true rfl) e0 dX11_lawsOf_6 (fun r1 M1 w1 => ?_)
  obtain ⟨x1, rfl, w1⟩ := w1
  refine pg_icmp_ge (pc := 9) (tgt := 37) dX11_lawsOf_9 (by decide) (fun c0 => ?_) (fun c0 => ?_)
  · skip
    refine pg_iload_n (pc := 37) (i := 2) (j := 2) (x := v2) dX11_lawsOf_37 rfl rfl ?_
    exact pg_iret (pc := 38) rfl dX11_lawsOf_38 (k0 x1 M1 w1 c0)
  · skip
    refine pg_iload_n (pc := 12) (i := 2) (j := 2) (x := v2) dX11_lawsOf_12 rfl rfl ?_
    refine pg_aload_n (pc := 13) (i := 0) (j := 0) (x := 207) dX11_lawsOf_13 rfl rfl ?_
    refine pg_iload_n (pc := 14) (i := 1) (j := 1) (x := v1) dX11_lawsOf_14 rfl rfl ?_
    refine pg_iload_n (pc := 15) (i := 3) (j := 3) (x := v3) dX11_lawsOf_15 rfl rfl ?_
    refine pg_callV (pc := 16) (As := [.int v1, .int v3]) (st := [.int v2]) okX11_isLaw lkX11_343 rfl h0.1 rfl (Nat.le_refl _) (Nat.le_of_ble_eq_true rfl) (e1 x1 M1 w1 c0) dX11_lawsOf_16 (fun r2 M2 w2 => ?_)
    obtain ⟨x2, rfl, w2⟩ := w2
    refine pg_if_eq (pc := 19) (tgt := 28) dX11_lawsOf_19 (by decide) (fun c1 => ?_) (fun c1 => ?_)
    · skip
      refine pg_iconst (pc := 28) (v := 0) dX11_lawsOf_28 (by decide) ?_
      refine pg_ior (pc := 29) dX11_lawsOf_29 ?_
      refine pg_istore_n (pc := 30) (i := 2) (ls' := [(2, .int (v2 ||| 0)), (0, .ref 207), (1, .int v1), (3, .int v3)]) dX11_lawsOf_30 rfl (by decide) rfl ?_
      refine pg_iinc (pc := 31) (i := 3) (j := 3) (x := v3) (v := v3 + 1) (ls' := [(3, .int (v3 + 1)), (2, .int (v2 ||| 0)), (0, .ref 207), (1, .int v1)]) dX11_lawsOf_31 rfl rfl (by decide) rfl ?_
      refine pg_goto (pc := 34) (tgt := 4) dX11_lawsOf_34 (by decide) ?_
      refine pg_drop (ks := [2, 3, 1, 0]) (ls' := [(0, .ref 207), (1, .int v1), (2, .int (v2 ||| 0)), (3, .int (v3 + 1))]) rfl ?_
      exact k1 x1 M1 w1 c0 x2 M2 w2 c1
    · skip
      refine pg_iconst (pc := 22) (v := 1) dX11_lawsOf_22 (by decide) ?_
      refine pg_iload_n (pc := 23) (i := 3) (j := 3) (x := v3) dX11_lawsOf_23 rfl rfl ?_
      refine pg_ishl (pc := 24) dX11_lawsOf_24 ?_
      refine pg_goto (pc := 25) (tgt := 29) dX11_lawsOf_25 (by decide) ?_
      refine pg_ior (pc := 29) dX11_lawsOf_29 ?_
      refine pg_istore_n (pc := 30) (i := 2) (ls' := [(2, .int (v2 ||| ((1 : Int32) <<< (v3 &&& 31)))), (0, .ref 207), (1, .int v1), (3, .int v3)]) dX11_lawsOf_30 rfl (by decide) rfl ?_
      refine pg_iinc (pc := 31) (i := 3) (j := 3) (x := v3) (v := v3 + 1) (ls' := [(3, .int (v3 + 1)), (2, .int (v2 ||| ((1 : Int32) <<< (v3 &&& 31)))), (0, .ref 207), (1, .int v1)]) dX11_lawsOf_31 rfl rfl (by decide) rfl ?_
      refine pg_goto (pc := 34) (tgt := 4) dX11_lawsOf_34 (by decide) ?_
      refine pg_drop (ks := [2, 3, 1, 0]) (ls' := [(0, .ref 207), (1, .int v1), (2, .int (v2 ||| ((1 : Int32) <<< (v3 &&& 31)))), (3, .int (v3 + 1))]) rfl ?_
      exact k2 x1 M1 w1 c0 x2 M2 w2 c1
theorem oX11_lawsOf {d : Nat} {v1 : Int32} (h : pg_At S Λ YX11_lawsOf d 0 [(0, .ref 207), (1, .int v1)] [] M P) : pg_Ev S Λ YX11_lawsOf d [.ref 207, .int v1] M P := pg_Ev.of (by decide) (by first | decide | exact Nat.le_of_ble_eq_true rfl) h
theorem sX11_worthOf_0 {v1 : Int32} 
    (k0 : pg_At S Λ YX11_worthOf (d + 1) 4 [(0, .ref 207), (1, .int v1), (2, .int 0), (3, .int 0)] [] M P) :
    pg_At S Λ YX11_worthOf (d + 1) 0 [(0, .ref 207), (1, .int v1)] [] M P := by
  refine pg_iconst (pc := 0) (v := 0) dX11_worthOf_0 (by decide) ?_
  refine pg_istore_n (pc := 1) (i := 2) (ls' := [(2, .int 0), (0, .ref 207), (1, .int v1)]) dX11_worthOf_1 rfl (by decide) rfl ?_
  refine pg_iconst (pc := 2) (v := 0) dX11_worthOf_2 (by decide) ?_
  refine pg_istore_n (pc := 3) (i := 3) (ls' := [(3, .int 0), (2, .int 0), (0, .ref 207), (1, .int v1)]) dX11_worthOf_3 rfl (by decide) rfl ?_
  refine pg_drop (ks := [2, 3, 1, 0]) (ls' := [(0, .ref 207), (1, .int v1), (2, .int 0), (3, .int 0)]) rfl ?_
  exact k0
theorem sX11_worthOf_4 {v1 : Int32} {v2 : Int32} {v3 : Int32} {Q0 : Int32 → pg_M → Prop} {Q1 : Int32 → pg_M → Prop}
    (h0 : pg_isX11 Λ)
    (e0 : pg_Ev S Λ YX11_cloths d [.ref 207] M (fun r M' => ∃ x, r = some (.int x) ∧ Q0 x M'))
    (k0 : ∀ x1 M1, Q0 x1 M1 → (x1 ≤ v3) → P (some (.int v2)) M1)
    (k1 : ∀ x1 M1, Q0 x1 M1 → (¬ x1 ≤ v3) → (¬ ((v1 >>> (v3 &&& 31)) &&& 1) = 1) → pg_At S Λ YX11_worthOf (d + 1) 4 [(0, .ref 207), (1, .int v1), (2, .int (v2 + 0)), (3, .int (v3 + 1))] [] M1 P)
    (e1 : ∀ x1 M1, Q0 x1 M1 → (¬ x1 ≤ v3) → (((v1 >>> (v3 &&& 31)) &&& 1) = 1) → pg_Ev S Λ YX11_clothOf d [.ref 207, .int v3, .int 3] M1 (fun r M' => ∃ x, r = some (.int x) ∧ Q1 x M'))
    (k2 : ∀ x1 M1, Q0 x1 M1 → (¬ x1 ≤ v3) → (((v1 >>> (v3 &&& 31)) &&& 1) = 1) → ∀ x2 M2, Q1 x2 M2 → pg_At S Λ YX11_worthOf (d + 1) 4 [(0, .ref 207), (1, .int v1), (2, .int (v2 + x2)), (3, .int (v3 + 1))] [] M2 P) :
    pg_At S Λ YX11_worthOf (d + 1) 4 [(0, .ref 207), (1, .int v1), (2, .int v2), (3, .int v3)] [] M P := by
  refine pg_iload_n (pc := 4) (i := 3) (j := 3) (x := v3) dX11_worthOf_4 rfl rfl ?_
  refine pg_aload_n (pc := 5) (i := 0) (j := 0) (x := 207) dX11_worthOf_5 rfl rfl ?_
  refine pg_callV (pc := 6) (As := []) (st := [.int v3]) okX11_cloths lkX11_292 rfl h0.1 rfl (Nat.le_refl _) (Nat.le_of_ble_eq_true rfl) e0 dX11_worthOf_6 (fun r1 M1 w1 => ?_)
  obtain ⟨x1, rfl, w1⟩ := w1
  refine pg_icmp_ge (pc := 9) (tgt := 40) dX11_worthOf_9 (by decide) (fun c0 => ?_) (fun c0 => ?_)
  · skip
    refine pg_iload_n (pc := 40) (i := 2) (j := 2) (x := v2) dX11_worthOf_40 rfl rfl ?_
    exact pg_iret (pc := 41) rfl dX11_worthOf_41 (k0 x1 M1 w1 c0)
  · skip
    refine pg_iload_n (pc := 12) (i := 2) (j := 2) (x := v2) dX11_worthOf_12 rfl rfl ?_
    refine pg_iload_n (pc := 13) (i := 1) (j := 1) (x := v1) dX11_worthOf_13 rfl rfl ?_
    refine pg_iload_n (pc := 14) (i := 3) (j := 3) (x := v3) dX11_worthOf_14 rfl rfl ?_
    refine pg_ishr (pc := 15) dX11_worthOf_15 ?_
    refine pg_iconst (pc := 16) (v := 1) dX11_worthOf_16 (by decide) ?_
    refine pg_iand (pc := 17) dX11_worthOf_17 ?_
    refine pg_iconst (pc := 18) (v := 1) dX11_worthOf_18 (by decide) ?_
    refine pg_icmp_ne (pc := 19) (tgt := 31) dX11_worthOf_19 (by decide) (fun c1 => ?_) (fun c1 => ?_)
    · skip
      refine pg_iconst (pc := 31) (v := 0) dX11_worthOf_31 (by decide) ?_
      refine pg_iadd (pc := 32) dX11_worthOf_32 ?_
      refine pg_istore_n (pc := 33) (i := 2) (ls' := [(2, .int (v2 + 0)), (0, .ref 207), (1, .int v1), (3, .int v3)]) dX11_worthOf_33 rfl (by decide) rfl ?_
      refine pg_iinc (pc := 34) (i := 3) (j := 3) (x := v3) (v := v3 + 1) (ls' := [(3, .int (v3 + 1)), (2, .int (v2 + 0)), (0, .ref 207), (1, .int v1)]) dX11_worthOf_34 rfl rfl (by decide) rfl ?_
      refine pg_goto (pc := 37) (tgt := 4) dX11_worthOf_37 (by decide) ?_
      refine pg_drop (ks := [2, 3, 1, 0]) (ls' := [(0, .ref 207), (1, .int v1), (2, .int (v2 + 0)), (3, .int (v3 + 1))]) rfl ?_
      exact k1 x1 M1 w1 c0 c1
    · skip
      refine pg_aload_n (pc := 22) (i := 0) (j := 0) (x := 207) dX11_worthOf_22 rfl rfl ?_
      refine pg_iload_n (pc := 23) (i := 3) (j := 3) (x := v3) dX11_worthOf_23 rfl rfl ?_
      refine pg_iconst (pc := 24) (v := 3) dX11_worthOf_24 (by decide) ?_
      refine pg_callV (pc := 25) (As := [.int v3, .int 3]) (st := [.int v2]) okX11_clothOf lkX11_295 rfl h0.1 rfl (Nat.le_refl _) (Nat.le_of_ble_eq_true rfl) (e1 x1 M1 w1 c0 c1) dX11_worthOf_25 (fun r2 M2 w2 => ?_)
      obtain ⟨x2, rfl, w2⟩ := w2
      refine pg_goto (pc := 28) (tgt := 32) dX11_worthOf_28 (by decide) ?_
      refine pg_iadd (pc := 32) dX11_worthOf_32 ?_
      refine pg_istore_n (pc := 33) (i := 2) (ls' := [(2, .int (v2 + x2)), (0, .ref 207), (1, .int v1), (3, .int v3)]) dX11_worthOf_33 rfl (by decide) rfl ?_
      refine pg_iinc (pc := 34) (i := 3) (j := 3) (x := v3) (v := v3 + 1) (ls' := [(3, .int (v3 + 1)), (2, .int (v2 + x2)), (0, .ref 207), (1, .int v1)]) dX11_worthOf_34 rfl rfl (by decide) rfl ?_
      refine pg_goto (pc := 37) (tgt := 4) dX11_worthOf_37 (by decide) ?_
      refine pg_drop (ks := [2, 3, 1, 0]) (ls' := [(0, .ref 207), (1, .int v1), (2, .int (v2 + x2)), (3, .int (v3 + 1))]) rfl ?_
      exact k2 x1 M1 w1 c0 c1 x2 M2 w2
theorem oX11_worthOf {d : Nat} {v1 : Int32} (h : pg_At S Λ YX11_worthOf d 0 [(0, .ref 207), (1, .int v1)] [] M P) : pg_Ev S Λ YX11_worthOf d [.ref 207, .int v1] M P := pg_Ev.of (by decide) (by first | decide | exact Nat.le_of_ble_eq_true rfl) h
theorem sX11_cloth_0 {v1 : Int32} {v2 : Int32} {Q0 : Int32 → pg_M → Prop} {Q1 : Int32 → pg_M → Prop} {Q2 : Int32 → pg_M → Prop} {Q3 : Int32 → pg_M → Prop} {Q4 : Int32 → pg_M → Prop} {Q5 : Int32 → pg_M → Prop} {Q6 : Int32 → pg_M → Prop} {Q7 : Int32 → pg_M → Prop} {Q8 : Int32 → pg_M → Prop} {Q9 : Int32 → pg_M → Prop}
    (h0 : pg_isX11 Λ)
    (e0 : pg_Ev S Λ YX11_isCloth d [.ref 207, .int v1] (pg_si M 207 0 0) (fun r M' => ∃ x, r = some (.int x) ∧ Q0 x M'))
    (k0 : ∀ x1 M1, Q0 x1 M1 → (x1 = 0) → P (some (.int (-1))) M1)
    (e1 : ∀ x1 M1, Q0 x1 M1 → (¬ x1 = 0) → pg_Ev S Λ YX11_within d [.int v2, .int 0, .int 7] M1 (fun r M' => ∃ x, r = some (.int x) ∧ Q1 x M'))
    (e2 : ∀ x1 M1, Q0 x1 M1 → (¬ x1 = 0) → ∀ x2 M2, Q1 x2 M2 → (¬ x2 = 0) → (v2 = 0) → pg_Ev S Λ YX11_clothOf d [.ref 207, .int v1, .int 0] M2 (fun r M' => ∃ x, r = some (.int x) ∧ Q2 x M'))
    (k1 : ∀ x1 M1, Q0 x1 M1 → (¬ x1 = 0) → ∀ x2 M2, Q1 x2 M2 → (¬ x2 = 0) → (v2 = 0) → ∀ x3 M3, Q2 x3 M3 → P (some (.int x3)) M3)
    (b0 : ∀ x1 M1, Q0 x1 M1 → (¬ x1 = 0) → ∀ x2 M2, Q1 x2 M2 → (¬ x2 = 0) → (¬ v2 = 0) → (v2 = 1) → vp_in (2 + v1) 1242)
    (k2 : ∀ x1 M1, Q0 x1 M1 → (¬ x1 = 0) → ∀ x2 M2, Q1 x2 M2 → (¬ x2 = 0) → (¬ v2 = 0) → (v2 = 1) → P (some (.int (M2.1 221 (2 + v1).toNatClampNeg))) M2)
    (b1 : ∀ x1 M1, Q0 x1 M1 → (¬ x1 = 0) → ∀ x2 M2, Q1 x2 M2 → (¬ x2 = 0) → (¬ v2 = 0) → (¬ v2 = 1) → (v2 = 2) → vp_in (8 + v1) 1242)
    (k3 : ∀ x1 M1, Q0 x1 M1 → (¬ x1 = 0) → ∀ x2 M2, Q1 x2 M2 → (¬ x2 = 0) → (¬ v2 = 0) → (¬ v2 = 1) → (v2 = 2) → P (some (.int (M2.1 221 (8 + v1).toNatClampNeg))) M2)
    (b2 : ∀ x1 M1, Q0 x1 M1 → (¬ x1 = 0) → ∀ x2 M2, Q1 x2 M2 → (¬ x2 = 0) → (¬ v2 = 0) → (¬ v2 = 1) → (¬ v2 = 2) → (v2 = 3) → vp_in (14 + v1) 1242)
    (k4 : ∀ x1 M1, Q0 x1 M1 → (¬ x1 = 0) → ∀ x2 M2, Q1 x2 M2 → (¬ x2 = 0) → (¬ v2 = 0) → (¬ v2 = 1) → (¬ v2 = 2) → (v2 = 3) → P (some (.int (M2.1 221 (14 + v1).toNatClampNeg))) M2)
    (e3 : ∀ x1 M1, Q0 x1 M1 → (¬ x1 = 0) → ∀ x2 M2, Q1 x2 M2 → (¬ x2 = 0) → (¬ v2 = 0) → (¬ v2 = 1) → (¬ v2 = 2) → (¬ v2 = 3) → (v2 = 4) → pg_Ev S Λ YX11_isLaw d [.ref 207, .int 0, .int v1] M2 (fun r M' => ∃ x, r = some (.int x) ∧ Q3 x M'))
    (k5 : ∀ x1 M1, Q0 x1 M1 → (¬ x1 = 0) → ∀ x2 M2, Q1 x2 M2 → (¬ x2 = 0) → (¬ v2 = 0) → (¬ v2 = 1) → (¬ v2 = 2) → (¬ v2 = 3) → (v2 = 4) → ∀ x4 M4, Q3 x4 M4 → (x4 = 0) → P (some (.int 0)) M4)
    (k6 : ∀ x1 M1, Q0 x1 M1 → (¬ x1 = 0) → ∀ x2 M2, Q1 x2 M2 → (¬ x2 = 0) → (¬ v2 = 0) → (¬ v2 = 1) → (¬ v2 = 2) → (¬ v2 = 3) → (v2 = 4) → ∀ x4 M4, Q3 x4 M4 → (¬ x4 = 0) → P (some (.int 1)) M4)
    (e4 : ∀ x1 M1, Q0 x1 M1 → (¬ x1 = 0) → ∀ x2 M2, Q1 x2 M2 → (¬ x2 = 0) → (¬ v2 = 0) → (¬ v2 = 1) → (¬ v2 = 2) → (¬ v2 = 3) → (¬ v2 = 4) → (v2 = 5) → pg_Ev S Λ YX11_isTurned d [.ref 207, .int 0, .int v1] M2 (fun r M' => ∃ x, r = some (.int x) ∧ Q4 x M'))
    (k7 : ∀ x1 M1, Q0 x1 M1 → (¬ x1 = 0) → ∀ x2 M2, Q1 x2 M2 → (¬ x2 = 0) → (¬ v2 = 0) → (¬ v2 = 1) → (¬ v2 = 2) → (¬ v2 = 3) → (¬ v2 = 4) → (v2 = 5) → ∀ x5 M5, Q4 x5 M5 → (x5 = 0) → P (some (.int 0)) M5)
    (k8 : ∀ x1 M1, Q0 x1 M1 → (¬ x1 = 0) → ∀ x2 M2, Q1 x2 M2 → (¬ x2 = 0) → (¬ v2 = 0) → (¬ v2 = 1) → (¬ v2 = 2) → (¬ v2 = 3) → (¬ v2 = 4) → (v2 = 5) → ∀ x5 M5, Q4 x5 M5 → (¬ x5 = 0) → P (some (.int 1)) M5)
    (e5 : ∀ x1 M1, Q0 x1 M1 → (¬ x1 = 0) → ∀ x2 M2, Q1 x2 M2 → (¬ x2 = 0) → (¬ v2 = 0) → (¬ v2 = 1) → (¬ v2 = 2) → (¬ v2 = 3) → (¬ v2 = 4) → (¬ v2 = 5) → (v2 = 6) → pg_Ev S Λ YX11_isHung d [.ref 207, .int 0, .int v1] M2 (fun r M' => ∃ x, r = some (.int x) ∧ Q5 x M'))
    (k9 : ∀ x1 M1, Q0 x1 M1 → (¬ x1 = 0) → ∀ x2 M2, Q1 x2 M2 → (¬ x2 = 0) → (¬ v2 = 0) → (¬ v2 = 1) → (¬ v2 = 2) → (¬ v2 = 3) → (¬ v2 = 4) → (¬ v2 = 5) → (v2 = 6) → ∀ x6 M6, Q5 x6 M6 → (x6 = 0) → P (some (.int 0)) M6)
    (b3 : ∀ x1 M1, Q0 x1 M1 → (¬ x1 = 0) → ∀ x2 M2, Q1 x2 M2 → (¬ x2 = 0) → (¬ v2 = 0) → (¬ v2 = 1) → (¬ v2 = 2) → (¬ v2 = 3) → (¬ v2 = 4) → (¬ v2 = 5) → (v2 = 6) → ∀ x6 M6, Q5 x6 M6 → (¬ x6 = 0) → vp_in (14 + v1) 1242)
    (e6 : ∀ x1 M1, Q0 x1 M1 → (¬ x1 = 0) → ∀ x2 M2, Q1 x2 M2 → (¬ x2 = 0) → (¬ v2 = 0) → (¬ v2 = 1) → (¬ v2 = 2) → (¬ v2 = 3) → (¬ v2 = 4) → (¬ v2 = 5) → (v2 = 6) → ∀ x6 M6, Q5 x6 M6 → (¬ x6 = 0) → pg_Ev S Λ YX11_bits d [.int (M6.1 221 (14 + v1).toNatClampNeg)] M6 (fun r M' => ∃ x, r = some (.int x) ∧ Q6 x M'))
    (e7 : ∀ x1 M1, Q0 x1 M1 → (¬ x1 = 0) → ∀ x2 M2, Q1 x2 M2 → (¬ x2 = 0) → (¬ v2 = 0) → (¬ v2 = 1) → (¬ v2 = 2) → (¬ v2 = 3) → (¬ v2 = 4) → (¬ v2 = 5) → (v2 = 6) → ∀ x6 M6, Q5 x6 M6 → (¬ x6 = 0) → ∀ x7 M7, Q6 x7 M7 → pg_Ev S Λ YX11_roomBy d [.ref 207, .int v1, .int x7] M7 (fun r M' => ∃ x, r = some (.int x) ∧ Q7 x M'))
    (k10 : ∀ x1 M1, Q0 x1 M1 → (¬ x1 = 0) → ∀ x2 M2, Q1 x2 M2 → (¬ x2 = 0) → (¬ v2 = 0) → (¬ v2 = 1) → (¬ v2 = 2) → (¬ v2 = 3) → (¬ v2 = 4) → (¬ v2 = 5) → (v2 = 6) → ∀ x6 M6, Q5 x6 M6 → (¬ x6 = 0) → ∀ x7 M7, Q6 x7 M7 → ∀ x8 M8, Q7 x8 M8 → P (some (.int x8)) M8)
    (b4 : ∀ x1 M1, Q0 x1 M1 → (¬ x1 = 0) → ∀ x2 M2, Q1 x2 M2 → (¬ x2 = 0) → (¬ v2 = 0) → (¬ v2 = 1) → (¬ v2 = 2) → (¬ v2 = 3) → (¬ v2 = 4) → (¬ v2 = 5) → (¬ v2 = 6) → vp_in (2 + v1) 1242)
    (e8 : ∀ x1 M1, Q0 x1 M1 → (¬ x1 = 0) → ∀ x2 M2, Q1 x2 M2 → (¬ x2 = 0) → (¬ v2 = 0) → (¬ v2 = 1) → (¬ v2 = 2) → (¬ v2 = 3) → (¬ v2 = 4) → (¬ v2 = 5) → (¬ v2 = 6) → pg_Ev S Λ YX11_windOf d [.ref 207, .int (M2.1 221 (0 : Int32).toNatClampNeg), .int 0] M2 (fun r M' => ∃ x, r = some (.int x) ∧ Q8 x M'))
    (e9 : ∀ x1 M1, Q0 x1 M1 → (¬ x1 = 0) → ∀ x2 M2, Q1 x2 M2 → (¬ x2 = 0) → (¬ v2 = 0) → (¬ v2 = 1) → (¬ v2 = 2) → (¬ v2 = 3) → (¬ v2 = 4) → (¬ v2 = 5) → (¬ v2 = 6) → ∀ x9 M9, Q8 x9 M9 → pg_Ev S Λ YX11_pullOf d [.ref 207, .int v1, .int (M2.1 221 (2 + v1).toNatClampNeg), .int x9] M9 (fun r M' => ∃ x, r = some (.int x) ∧ Q9 x M'))
    (k11 : ∀ x1 M1, Q0 x1 M1 → (¬ x1 = 0) → ∀ x2 M2, Q1 x2 M2 → (¬ x2 = 0) → (¬ v2 = 0) → (¬ v2 = 1) → (¬ v2 = 2) → (¬ v2 = 3) → (¬ v2 = 4) → (¬ v2 = 5) → (¬ v2 = 6) → ∀ x9 M9, Q8 x9 M9 → ∀ x10 M10, Q9 x10 M10 → P (some (.int x10)) M10)
    (k12 : ∀ x1 M1, Q0 x1 M1 → (¬ x1 = 0) → ∀ x2 M2, Q1 x2 M2 → (x2 = 0) → P (some (.int (-1))) M2) :
    pg_At S Λ YX11_cloth (d + 1) 0 [(0, .ref 207), (1, .int v1), (2, .int v2)] [] M P := by
  refine pg_aload_n (pc := 0) (i := 0) (j := 0) (x := 207) dX11_cloth_0 rfl rfl ?_
  refine pg_iconst (pc := 1) (v := 0) dX11_cloth_1 (by decide) ?_
  refine pfX11_1 (pc := 2) rfl h0 dX11_cloth_2 ?_
  refine pg_aload_n (pc := 5) (i := 0) (j := 0) (x := 207) dX11_cloth_5 rfl rfl ?_
  refine pg_iload_n (pc := 6) (i := 1) (j := 1) (x := v1) dX11_cloth_6 rfl rfl ?_
  refine pg_callV (pc := 7) (As := [.int v1]) (st := []) okX11_isCloth lkX11_346 rfl h0.1 rfl (Nat.le_refl _) (Nat.le_of_ble_eq_true rfl) e0 dX11_cloth_7 (fun r1 M1 w1 => ?_)
  obtain ⟨x1, rfl, w1⟩ := w1
  refine pg_if_eq (pc := 10) (tgt := 23) dX11_cloth_10 (by decide) (fun c0 => ?_) (fun c0 => ?_)
  · skip
    refine pg_iconst (pc := 23) (v := (-1)) dX11_cloth_23 (by decide) ?_
    exact pg_iret (pc := 24) rfl dX11_cloth_24 (k0 x1 M1 w1 c0)
  · skip
    refine pg_iload_n (pc := 13) (i := 2) (j := 2) (x := v2) dX11_cloth_13 rfl rfl ?_
    refine pg_iconst (pc := 14) (v := 0) dX11_cloth_14 (by decide) ?_
    refine pg_bipush (pc := 15) (v := 7) dX11_cloth_15 (by decide) ?_
    refine pg_callS (pc := 17) (As := [.int v2, .int 0, .int 7]) (st := []) okX11_within lkX11_349 rfl (Nat.le_refl _) (Nat.le_of_ble_eq_true rfl) (e1 x1 M1 w1 c0) dX11_cloth_17 (fun r2 M2 w2 => ?_)
    obtain ⟨x2, rfl, w2⟩ := w2
    refine pg_if_ne (pc := 20) (tgt := 25) dX11_cloth_20 (by decide) (fun c1 => ?_) (fun c1 => ?_)
    · skip
      refine pg_iload_n (pc := 25) (i := 2) (j := 2) (x := v2) dX11_cloth_25 rfl rfl ?_
      by_cases c2 : v2 = 0
      · refine pg_tableIn (pc := 26) (tgt := 68) dX11_cloth_26 (by rw [c2]; decide) (by rw [c2]; decide) (by rw [c2]; rfl) (by decide) ?_
        refine pg_aload_n (pc := 68) (i := 0) (j := 0) (x := 207) dX11_cloth_68 rfl rfl ?_
        refine pg_iload_n (pc := 69) (i := 1) (j := 1) (x := v1) dX11_cloth_69 rfl rfl ?_
        refine pg_iconst (pc := 70) (v := 0) dX11_cloth_70 (by decide) ?_
        refine pg_callV (pc := 71) (As := [.int v1, .int 0]) (st := []) okX11_clothOf lkX11_295 rfl h0.1 rfl (Nat.le_refl _) (Nat.le_of_ble_eq_true rfl) (e2 x1 M1 w1 c0 x2 M2 w2 c1 c2) dX11_cloth_71 (fun r3 M3 w3 => ?_)
        obtain ⟨x3, rfl, w3⟩ := w3
        exact pg_iret (pc := 74) rfl dX11_cloth_74 (k1 x1 M1 w1 c0 x2 M2 w2 c1 c2 x3 M3 w3)
      by_cases c3 : v2 = 1
      · refine pg_tableIn (pc := 26) (tgt := 75) dX11_cloth_26 (by rw [c3]; decide) (by rw [c3]; decide) (by rw [c3]; rfl) (by decide) ?_
        refine pg_aload_n (pc := 75) (i := 0) (j := 0) (x := 207) dX11_cloth_75 rfl rfl ?_
        refine gfX11_113 (pc := 76) rfl h0 dX11_cloth_76 ?_
        refine pg_iconst (pc := 79) (v := 2) dX11_cloth_79 (by decide) ?_
        refine pg_iload_n (pc := 80) (i := 1) (j := 1) (x := v1) dX11_cloth_80 rfl rfl ?_
        refine pg_iadd (pc := 81) dX11_cloth_81 ?_
        refine pg_iald (pc := 82) h0.2.2.2.2.2.2.2.2.2.2.2.2.2.2.1 (b0 x1 M1 w1 c0 x2 M2 w2 c1 c2 c3) dX11_cloth_82 ?_
        exact pg_iret (pc := 83) rfl dX11_cloth_83 (k2 x1 M1 w1 c0 x2 M2 w2 c1 c2 c3)
      by_cases c4 : v2 = 2
      · refine pg_tableIn (pc := 26) (tgt := 84) dX11_cloth_26 (by rw [c4]; decide) (by rw [c4]; decide) (by rw [c4]; rfl) (by decide) ?_
        refine pg_aload_n (pc := 84) (i := 0) (j := 0) (x := 207) dX11_cloth_84 rfl rfl ?_
        refine gfX11_113 (pc := 85) rfl h0 dX11_cloth_85 ?_
        refine pg_bipush (pc := 88) (v := 8) dX11_cloth_88 (by decide) ?_
        refine pg_iload_n (pc := 90) (i := 1) (j := 1) (x := v1) dX11_cloth_90 rfl rfl ?_
        refine pg_iadd (pc := 91) dX11_cloth_91 ?_
        refine pg_iald (pc := 92) h0.2.2.2.2.2.2.2.2.2.2.2.2.2.2.1 (b1 x1 M1 w1 c0 x2 M2 w2 c1 c2 c3 c4) dX11_cloth_92 ?_
        exact pg_iret (pc := 93) rfl dX11_cloth_93 (k3 x1 M1 w1 c0 x2 M2 w2 c1 c2 c3 c4)
      by_cases c5 : v2 = 3
      · refine pg_tableIn (pc := 26) (tgt := 94) dX11_cloth_26 (by rw [c5]; decide) (by rw [c5]; decide) (by rw [c5]; rfl) (by decide) ?_
        refine pg_aload_n (pc := 94) (i := 0) (j := 0) (x := 207) dX11_cloth_94 rfl rfl ?_
        refine gfX11_113 (pc := 95) rfl h0 dX11_cloth_95 ?_
        refine pg_bipush (pc := 98) (v := 14) dX11_cloth_98 (by decide) ?_
        refine pg_iload_n (pc := 100) (i := 1) (j := 1) (x := v1) dX11_cloth_100 rfl rfl ?_
        refine pg_iadd (pc := 101) dX11_cloth_101 ?_
        refine pg_iald (pc := 102) h0.2.2.2.2.2.2.2.2.2.2.2.2.2.2.1 (b2 x1 M1 w1 c0 x2 M2 w2 c1 c2 c3 c4 c5) dX11_cloth_102 ?_
        exact pg_iret (pc := 103) rfl dX11_cloth_103 (k4 x1 M1 w1 c0 x2 M2 w2 c1 c2 c3 c4 c5)
      by_cases c6 : v2 = 4
      · refine pg_tableIn (pc := 26) (tgt := 104) dX11_cloth_26 (by rw [c6]; decide) (by rw [c6]; decide) (by rw [c6]; rfl) (by decide) ?_
        refine pg_aload_n (pc := 104) (i := 0) (j := 0) (x := 207) dX11_cloth_104 rfl rfl ?_
        refine pg_iconst (pc := 105) (v := 0) dX11_cloth_105 (by decide) ?_
        refine pg_iload_n (pc := 106) (i := 1) (j := 1) (x := v1) dX11_cloth_106 rfl rfl ?_
        refine pg_callV (pc := 107) (As := [.int 0, .int v1]) (st := []) okX11_isLaw lkX11_343 rfl h0.1 rfl (Nat.le_refl _) (Nat.le_of_ble_eq_true rfl) (e3 x1 M1 w1 c0 x2 M2 w2 c1 c2 c3 c4 c5 c6) dX11_cloth_107 (fun r4 M4 w4 => ?_)
        obtain ⟨x4, rfl, w4⟩ := w4
        refine pg_if_eq (pc := 110) (tgt := 117) dX11_cloth_110 (by decide) (fun c7 => ?_) (fun c7 => ?_)
        · skip
          refine pg_iconst (pc := 117) (v := 0) dX11_cloth_117 (by decide) ?_
          exact pg_iret (pc := 118) rfl dX11_cloth_118 (k5 x1 M1 w1 c0 x2 M2 w2 c1 c2 c3 c4 c5 c6 x4 M4 w4 c7)
        · skip
          refine pg_iconst (pc := 113) (v := 1) dX11_cloth_113 (by decide) ?_
          refine pg_goto (pc := 114) (tgt := 118) dX11_cloth_114 (by decide) ?_
          exact pg_iret (pc := 118) rfl dX11_cloth_118 (k6 x1 M1 w1 c0 x2 M2 w2 c1 c2 c3 c4 c5 c6 x4 M4 w4 c7)
      by_cases c7 : v2 = 5
      · refine pg_tableIn (pc := 26) (tgt := 119) dX11_cloth_26 (by rw [c7]; decide) (by rw [c7]; decide) (by rw [c7]; rfl) (by decide) ?_
        refine pg_aload_n (pc := 119) (i := 0) (j := 0) (x := 207) dX11_cloth_119 rfl rfl ?_
        refine pg_iconst (pc := 120) (v := 0) dX11_cloth_120 (by decide) ?_
        refine pg_iload_n (pc := 121) (i := 1) (j := 1) (x := v1) dX11_cloth_121 rfl rfl ?_
        refine pg_callV (pc := 122) (As := [.int 0, .int v1]) (st := []) okX11_isTurned lkX11_352 rfl h0.1 rfl (Nat.le_refl _) (Nat.le_of_ble_eq_true rfl) (e4 x1 M1 w1 c0 x2 M2 w2 c1 c2 c3 c4 c5 c6 c7) dX11_cloth_122 (fun r5 M5 w5 => ?_)
        obtain ⟨x5, rfl, w5⟩ := w5
        refine pg_if_eq (pc := 125) (tgt := 132) dX11_cloth_125 (by decide) (fun c8 => ?_) (fun c8 => ?_)
        · skip
          refine pg_iconst (pc := 132) (v := 0) dX11_cloth_132 (by decide) ?_
          exact pg_iret (pc := 133) rfl dX11_cloth_133 (k7 x1 M1 w1 c0 x2 M2 w2 c1 c2 c3 c4 c5 c6 c7 x5 M5 w5 c8)
        · skip
          refine pg_iconst (pc := 128) (v := 1) dX11_cloth_128 (by decide) ?_
          refine pg_goto (pc := 129) (tgt := 133) dX11_cloth_129 (by decide) ?_
          exact pg_iret (pc := 133) rfl dX11_cloth_133 (k8 x1 M1 w1 c0 x2 M2 w2 c1 c2 c3 c4 c5 c6 c7 x5 M5 w5 c8)
      by_cases c8 : v2 = 6
      · refine pg_tableIn (pc := 26) (tgt := 134) dX11_cloth_26 (by rw [c8]; decide) (by rw [c8]; decide) (by rw [c8]; rfl) (by decide) ?_
        refine pg_aload_n (pc := 134) (i := 0) (j := 0) (x := 207) dX11_cloth_134 rfl rfl ?_
        refine pg_iconst (pc := 135) (v := 0) dX11_cloth_135 (by decide) ?_
        refine pg_iload_n (pc := 136) (i := 1) (j := 1) (x := v1) dX11_cloth_136 rfl rfl ?_
        refine pg_callV (pc := 137) (As := [.int 0, .int v1]) (st := []) okX11_isHung lkX11_304 rfl h0.1 rfl (Nat.le_refl _) (Nat.le_of_ble_eq_true rfl) (e5 x1 M1 w1 c0 x2 M2 w2 c1 c2 c3 c4 c5 c6 c7 c8) dX11_cloth_137 (fun r6 M6 w6 => ?_)
        obtain ⟨x6, rfl, w6⟩ := w6
        refine pg_if_eq (pc := 140) (tgt := 163) dX11_cloth_140 (by decide) (fun c9 => ?_) (fun c9 => ?_)
        · skip
          refine pg_iconst (pc := 163) (v := 0) dX11_cloth_163 (by decide) ?_
          exact pg_iret (pc := 164) rfl dX11_cloth_164 (k9 x1 M1 w1 c0 x2 M2 w2 c1 c2 c3 c4 c5 c6 c7 c8 x6 M6 w6 c9)
        · skip
          refine pg_aload_n (pc := 143) (i := 0) (j := 0) (x := 207) dX11_cloth_143 rfl rfl ?_
          refine pg_iload_n (pc := 144) (i := 1) (j := 1) (x := v1) dX11_cloth_144 rfl rfl ?_
          refine pg_aload_n (pc := 145) (i := 0) (j := 0) (x := 207) dX11_cloth_145 rfl rfl ?_
          refine gfX11_113 (pc := 146) rfl h0 dX11_cloth_146 ?_
          refine pg_bipush (pc := 149) (v := 14) dX11_cloth_149 (by decide) ?_
          refine pg_iload_n (pc := 151) (i := 1) (j := 1) (x := v1) dX11_cloth_151 rfl rfl ?_
          refine pg_iadd (pc := 152) dX11_cloth_152 ?_
          refine pg_iald (pc := 153) h0.2.2.2.2.2.2.2.2.2.2.2.2.2.2.1 (b3 x1 M1 w1 c0 x2 M2 w2 c1 c2 c3 c4 c5 c6 c7 c8 x6 M6 w6 c9) dX11_cloth_153 ?_
          refine pg_callS (pc := 154) (As := [.int (M6.1 221 (14 + v1).toNatClampNeg)]) (st := [.int v1, .ref 207]) okX11_bits lkX11_298 rfl (Nat.le_refl _) (Nat.le_of_ble_eq_true rfl) (e6 x1 M1 w1 c0 x2 M2 w2 c1 c2 c3 c4 c5 c6 c7 c8 x6 M6 w6 c9) dX11_cloth_154 (fun r7 M7 w7 => ?_)
          obtain ⟨x7, rfl, w7⟩ := w7
          refine pg_callV (pc := 157) (As := [.int v1, .int x7]) (st := []) okX11_roomBy lkX11_308 rfl h0.1 rfl (Nat.le_refl _) (Nat.le_of_ble_eq_true rfl) (e7 x1 M1 w1 c0 x2 M2 w2 c1 c2 c3 c4 c5 c6 c7 c8 x6 M6 w6 c9 x7 M7 w7) dX11_cloth_157 (fun r8 M8 w8 => ?_)
          obtain ⟨x8, rfl, w8⟩ := w8
          refine pg_goto (pc := 160) (tgt := 164) dX11_cloth_160 (by decide) ?_
          exact pg_iret (pc := 164) rfl dX11_cloth_164 (k10 x1 M1 w1 c0 x2 M2 w2 c1 c2 c3 c4 c5 c6 c7 c8 x6 M6 w6 c9 x7 M7 w7 x8 M8 w8)
      have g0 : v2.toInt ≠ 0 := pg_ne c2 (by decide)
      have g1 : v2.toInt ≠ 1 := pg_ne c3 (by decide)
      have g2 : v2.toInt ≠ 2 := pg_ne c4 (by decide)
      have g3 : v2.toInt ≠ 3 := pg_ne c5 (by decide)
      have g4 : v2.toInt ≠ 4 := pg_ne c6 (by decide)
      have g5 : v2.toInt ≠ 5 := pg_ne c7 (by decide)
      have g6 : v2.toInt ≠ 6 := pg_ne c8 (by decide)
      refine pg_tableOut (pc := 26) (tgt := 165) dX11_cloth_26 (by omega) (by decide) ?_
      refine pg_aload_n (pc := 165) (i := 0) (j := 0) (x := 207) dX11_cloth_165 rfl rfl ?_
      refine pg_iload_n (pc := 166) (i := 1) (j := 1) (x := v1) dX11_cloth_166 rfl rfl ?_
      refine pg_aload_n (pc := 167) (i := 0) (j := 0) (x := 207) dX11_cloth_167 rfl rfl ?_
      refine gfX11_113 (pc := 168) rfl h0 dX11_cloth_168 ?_
      refine pg_iconst (pc := 171) (v := 2) dX11_cloth_171 (by decide) ?_
      refine pg_iload_n (pc := 172) (i := 1) (j := 1) (x := v1) dX11_cloth_172 rfl rfl ?_
      refine pg_iadd (pc := 173) dX11_cloth_173 ?_
      refine pg_iald (pc := 174) h0.2.2.2.2.2.2.2.2.2.2.2.2.2.2.1 (b4 x1 M1 w1 c0 x2 M2 w2 c1 c2 c3 c4 c5 c6 c7 c8) dX11_cloth_174 ?_
      refine pg_aload_n (pc := 175) (i := 0) (j := 0) (x := 207) dX11_cloth_175 rfl rfl ?_
      refine pg_aload_n (pc := 176) (i := 0) (j := 0) (x := 207) dX11_cloth_176 rfl rfl ?_
      refine gfX11_113 (pc := 177) rfl h0 dX11_cloth_177 ?_
      refine pg_iconst (pc := 180) (v := 0) dX11_cloth_180 (by decide) ?_
      refine pg_iald (pc := 181) h0.2.2.2.2.2.2.2.2.2.2.2.2.2.2.1 (by unfold vp_in; decide) dX11_cloth_181 ?_
      refine pg_iconst (pc := 182) (v := 0) dX11_cloth_182 (by decide) ?_
      refine pg_callV (pc := 183) (As := [.int (M2.1 221 (0 : Int32).toNatClampNeg), .int 0]) (st := [.int (M2.1 221 (2 + v1).toNatClampNeg), .int v1, .ref 207]) okX11_windOf lkX11_332 rfl h0.1 rfl (Nat.le_refl _) (Nat.le_of_ble_eq_true rfl) (e8 x1 M1 w1 c0 x2 M2 w2 c1 c2 c3 c4 c5 c6 c7 c8) dX11_cloth_183 (fun r9 M9 w9 => ?_)
      obtain ⟨x9, rfl, w9⟩ := w9
      refine pg_callV (pc := 186) (As := [.int v1, .int (M2.1 221 (2 + v1).toNatClampNeg), .int x9]) (st := []) okX11_pullOf lkX11_317 rfl h0.1 rfl (Nat.le_refl _) (Nat.le_of_ble_eq_true rfl) (e9 x1 M1 w1 c0 x2 M2 w2 c1 c2 c3 c4 c5 c6 c7 c8 x9 M9 w9) dX11_cloth_186 (fun r10 M10 w10 => ?_)
      obtain ⟨x10, rfl, w10⟩ := w10
      exact pg_iret (pc := 189) rfl dX11_cloth_189 (k11 x1 M1 w1 c0 x2 M2 w2 c1 c2 c3 c4 c5 c6 c7 c8 x9 M9 w9 x10 M10 w10)
    · skip
      refine pg_iconst (pc := 23) (v := (-1)) dX11_cloth_23 (by decide) ?_
      exact pg_iret (pc := 24) rfl dX11_cloth_24 (k12 x1 M1 w1 c0 x2 M2 w2 c1)
theorem oX11_cloth {d : Nat} {v1 : Int32} {v2 : Int32} (h : pg_At S Λ YX11_cloth d 0 [(0, .ref 207), (1, .int v1), (2, .int v2)] [] M P) : pg_Ev S Λ YX11_cloth d [.ref 207, .int v1, .int v2] M P := pg_Ev.of (by decide) (by first | decide | exact Nat.le_of_ble_eq_true rfl) h
theorem sX11_heldBy_0 {v1 : Int32} {v2 : Int32} 
    (k0 : pg_At S Λ YX11_heldBy (d + 1) 5 [(0, .ref 207), (1, .int v1), (2, .int v2), (3, .int (-1)), (4, .int 0)] [] M P) :
    pg_At S Λ YX11_heldBy (d + 1) 0 [(0, .ref 207), (1, .int v1), (2, .int v2)] [] M P := by
  refine pg_iconst (pc := 0) (v := (-1)) dX11_heldBy_0 (by decide) ?_
  refine pg_istore_n (pc := 1) (i := 3) (ls' := [(3, .int (-1)), (0, .ref 207), (1, .int v1), (2, .int v2)]) dX11_heldBy_1 rfl (by decide) rfl ?_
  refine pg_iconst (pc := 2) (v := 0) dX11_heldBy_2 (by decide) ?_
  refine pg_istore (pc := 3) (i := 4) (ls' := [(4, .int 0), (3, .int (-1)), (0, .ref 207), (1, .int v1), (2, .int v2)]) dX11_heldBy_3 (by decide) rfl ?_
  refine pg_drop (ks := [2, 3, 4, 1, 0]) (ls' := [(0, .ref 207), (1, .int v1), (2, .int v2), (3, .int (-1)), (4, .int 0)]) rfl ?_
  exact k0
theorem sX11_heldBy_5 {v1 : Int32} {v2 : Int32} {v3 : Int32} {v4 : Int32} {Q0 : Int32 → pg_M → Prop}
    (h0 : pg_isX11 Λ)
    (e0 : pg_Ev S Λ YX11_cloths d [.ref 207] M (fun r M' => ∃ x, r = some (.int x) ∧ Q0 x M'))
    (k0 : ∀ x1 M1, Q0 x1 M1 → (x1 ≤ v4) → P (some (.int v3)) M1)
    (b0 : ∀ x1 M1, Q0 x1 M1 → (¬ x1 ≤ v4) → vp_in ((v1 + 14) + v4) 1242)
    (k1 : ∀ x1 M1, Q0 x1 M1 → (¬ x1 ≤ v4) → (¬ (((M1.1 221 ((v1 + 14) + v4).toNatClampNeg) >>> (v2 &&& 31)) &&& 1) = 1) → pg_At S Λ YX11_heldBy (d + 1) 5 [(0, .ref 207), (1, .int v1), (2, .int v2), (3, .int v3), (4, .int (v4 + 1))] [] M1 P)
    (k2 : ∀ x1 M1, Q0 x1 M1 → (¬ x1 ≤ v4) → ((((M1.1 221 ((v1 + 14) + v4).toNatClampNeg) >>> (v2 &&& 31)) &&& 1) = 1) → pg_At S Λ YX11_heldBy (d + 1) 5 [(0, .ref 207), (1, .int v1), (2, .int v2), (3, .int v4), (4, .int (v4 + 1))] [] M1 P) :
    pg_At S Λ YX11_heldBy (d + 1) 5 [(0, .ref 207), (1, .int v1), (2, .int v2), (3, .int v3), (4, .int v4)] [] M P := by
  refine pg_iload (pc := 5) (i := 4) (j := 4) (x := v4) dX11_heldBy_5 rfl ?_
  refine pg_aload_n (pc := 7) (i := 0) (j := 0) (x := 207) dX11_heldBy_7 rfl rfl ?_
  refine pg_callV (pc := 8) (As := []) (st := [.int v4]) okX11_cloths lkX11_292 rfl h0.1 rfl (Nat.le_refl _) (Nat.le_of_ble_eq_true rfl) e0 dX11_heldBy_8 (fun r1 M1 w1 => ?_)
  obtain ⟨x1, rfl, w1⟩ := w1
  refine pg_icmp_ge (pc := 11) (tgt := 47) dX11_heldBy_11 (by decide) (fun c0 => ?_) (fun c0 => ?_)
  · skip
    refine pg_iload_n (pc := 47) (i := 3) (j := 3) (x := v3) dX11_heldBy_47 rfl rfl ?_
    exact pg_iret (pc := 48) rfl dX11_heldBy_48 (k0 x1 M1 w1 c0)
  · skip
    refine pg_aload_n (pc := 14) (i := 0) (j := 0) (x := 207) dX11_heldBy_14 rfl rfl ?_
    refine gfX11_113 (pc := 15) rfl h0 dX11_heldBy_15 ?_
    refine pg_iload_n (pc := 18) (i := 1) (j := 1) (x := v1) dX11_heldBy_18 rfl rfl ?_
    refine pg_bipush (pc := 19) (v := 14) dX11_heldBy_19 (by decide) ?_
    refine pg_iadd (pc := 21) dX11_heldBy_21 ?_
    refine pg_iload (pc := 22) (i := 4) (j := 4) (x := v4) dX11_heldBy_22 rfl ?_
    refine pg_iadd (pc := 24) dX11_heldBy_24 ?_
    refine pg_iald (pc := 25) h0.2.2.2.2.2.2.2.2.2.2.2.2.2.2.1 (b0 x1 M1 w1 c0) dX11_heldBy_25 ?_
    refine pg_iload_n (pc := 26) (i := 2) (j := 2) (x := v2) dX11_heldBy_26 rfl rfl ?_
    refine pg_ishr (pc := 27) dX11_heldBy_27 ?_
    refine pg_iconst (pc := 28) (v := 1) dX11_heldBy_28 (by decide) ?_
    refine pg_iand (pc := 29) dX11_heldBy_29 ?_
    refine pg_iconst (pc := 30) (v := 1) dX11_heldBy_30 (by decide) ?_
    refine pg_icmp_ne (pc := 31) (tgt := 39) dX11_heldBy_31 (by decide) (fun c1 => ?_) (fun c1 => ?_)
    · skip
      refine pg_iload_n (pc := 39) (i := 3) (j := 3) (x := v3) dX11_heldBy_39 rfl rfl ?_
      refine pg_istore_n (pc := 40) (i := 3) (ls' := [(3, .int v3), (0, .ref 207), (1, .int v1), (2, .int v2), (4, .int v4)]) dX11_heldBy_40 rfl (by decide) rfl ?_
      refine pg_iinc (pc := 41) (i := 4) (j := 4) (x := v4) (v := v4 + 1) (ls' := [(4, .int (v4 + 1)), (3, .int v3), (0, .ref 207), (1, .int v1), (2, .int v2)]) dX11_heldBy_41 rfl rfl (by decide) rfl ?_
      refine pg_goto (pc := 44) (tgt := 5) dX11_heldBy_44 (by decide) ?_
      refine pg_drop (ks := [2, 3, 4, 1, 0]) (ls' := [(0, .ref 207), (1, .int v1), (2, .int v2), (3, .int v3), (4, .int (v4 + 1))]) rfl ?_
      exact k1 x1 M1 w1 c0 c1
    · skip
      refine pg_iload (pc := 34) (i := 4) (j := 4) (x := v4) dX11_heldBy_34 rfl ?_
      refine pg_goto (pc := 36) (tgt := 40) dX11_heldBy_36 (by decide) ?_
      refine pg_istore_n (pc := 40) (i := 3) (ls' := [(3, .int v4), (0, .ref 207), (1, .int v1), (2, .int v2), (4, .int v4)]) dX11_heldBy_40 rfl (by decide) rfl ?_
      refine pg_iinc (pc := 41) (i := 4) (j := 4) (x := v4) (v := v4 + 1) (ls' := [(4, .int (v4 + 1)), (3, .int v4), (0, .ref 207), (1, .int v1), (2, .int v2)]) dX11_heldBy_41 rfl rfl (by decide) rfl ?_
      refine pg_goto (pc := 44) (tgt := 5) dX11_heldBy_44 (by decide) ?_
      refine pg_drop (ks := [2, 3, 4, 1, 0]) (ls' := [(0, .ref 207), (1, .int v1), (2, .int v2), (3, .int v4), (4, .int (v4 + 1))]) rfl ?_
      exact k2 x1 M1 w1 c0 c1
theorem oX11_heldBy {d : Nat} {v1 : Int32} {v2 : Int32} (h : pg_At S Λ YX11_heldBy d 0 [(0, .ref 207), (1, .int v1), (2, .int v2)] [] M P) : pg_Ev S Λ YX11_heldBy d [.ref 207, .int v1, .int v2] M P := pg_Ev.of (by decide) (by first | decide | exact Nat.le_of_ble_eq_true rfl) h
theorem sX11_peg_0 {v1 : Int32} {v2 : Int32} {Q0 : Int32 → pg_M → Prop} {Q1 : Int32 → pg_M → Prop}
    (h0 : pg_isX11 Λ)
    (k0 : (v1 < 0) → P (some (.int (-2))) (pg_si M 207 0 0))
    (k1 : (¬ v1 < 0) → (((pg_si M 207 0 0).1 221 (1 : Int32).toNatClampNeg) ≤ v1) → P (some (.int (-2))) (pg_si M 207 0 0))
    (e0 : (¬ v1 < 0) → (¬ ((pg_si M 207 0 0).1 221 (1 : Int32).toNatClampNeg) ≤ v1) → pg_Ev S Λ YX11_within d [.int v2, .int 0, .int 1] (pg_si M 207 0 0) (fun r M' => ∃ x, r = some (.int x) ∧ Q0 x M'))
    (e1 : (¬ v1 < 0) → (¬ ((pg_si M 207 0 0).1 221 (1 : Int32).toNatClampNeg) ≤ v1) → ∀ x1 M1, Q0 x1 M1 → (¬ x1 = 0) → (¬ v2 = 0) → pg_Ev S Λ YX11_heldBy d [.ref 207, .int 0, .int v1] M1 (fun r M' => ∃ x, r = some (.int x) ∧ Q1 x M'))
    (k2 : (¬ v1 < 0) → (¬ ((pg_si M 207 0 0).1 221 (1 : Int32).toNatClampNeg) ≤ v1) → ∀ x1 M1, Q0 x1 M1 → (¬ x1 = 0) → (¬ v2 = 0) → ∀ x2 M2, Q1 x2 M2 → P (some (.int x2)) M2)
    (b0 : (¬ v1 < 0) → (¬ ((pg_si M 207 0 0).1 221 (1 : Int32).toNatClampNeg) ≤ v1) → ∀ x1 M1, Q0 x1 M1 → (¬ x1 = 0) → (v2 = 0) → vp_in (20 + v1) 1242)
    (k3 : (¬ v1 < 0) → (¬ ((pg_si M 207 0 0).1 221 (1 : Int32).toNatClampNeg) ≤ v1) → ∀ x1 M1, Q0 x1 M1 → (¬ x1 = 0) → (v2 = 0) → P (some (.int (M1.1 221 (20 + v1).toNatClampNeg))) M1)
    (k4 : (¬ v1 < 0) → (¬ ((pg_si M 207 0 0).1 221 (1 : Int32).toNatClampNeg) ≤ v1) → ∀ x1 M1, Q0 x1 M1 → (x1 = 0) → P (some (.int (-2))) M1) :
    pg_At S Λ YX11_peg (d + 1) 0 [(0, .ref 207), (1, .int v1), (2, .int v2)] [] M P := by
  refine pg_aload_n (pc := 0) (i := 0) (j := 0) (x := 207) dX11_peg_0 rfl rfl ?_
  refine pg_iconst (pc := 1) (v := 0) dX11_peg_1 (by decide) ?_
  refine pfX11_1 (pc := 2) rfl h0 dX11_peg_2 ?_
  refine pg_iload_n (pc := 5) (i := 1) (j := 1) (x := v1) dX11_peg_5 rfl rfl ?_
  refine pg_if_lt (pc := 6) (tgt := 28) dX11_peg_6 (by decide) (fun c0 => ?_) (fun c0 => ?_)
  · skip
    refine pg_bipush (pc := 28) (v := (-2)) dX11_peg_28 (by decide) ?_
    exact pg_iret (pc := 30) rfl dX11_peg_30 (k0 c0)
  · skip
    refine pg_iload_n (pc := 9) (i := 1) (j := 1) (x := v1) dX11_peg_9 rfl rfl ?_
    refine pg_aload_n (pc := 10) (i := 0) (j := 0) (x := 207) dX11_peg_10 rfl rfl ?_
    refine gfX11_113 (pc := 11) rfl h0 dX11_peg_11 ?_
    refine pg_iconst (pc := 14) (v := 1) dX11_peg_14 (by decide) ?_
    refine pg_iald (pc := 15) h0.2.2.2.2.2.2.2.2.2.2.2.2.2.2.1 (by unfold vp_in; decide) dX11_peg_15 ?_
    refine pg_icmp_ge (pc := 16) (tgt := 28) dX11_peg_16 (by decide) (fun c1 => ?_) (fun c1 => ?_)
    · skip
      refine pg_bipush (pc := 28) (v := (-2)) dX11_peg_28 (by decide) ?_
      exact pg_iret (pc := 30) rfl dX11_peg_30 (k1 c0 c1)
    · skip
      refine pg_iload_n (pc := 19) (i := 2) (j := 2) (x := v2) dX11_peg_19 rfl rfl ?_
      refine pg_iconst (pc := 20) (v := 0) dX11_peg_20 (by decide) ?_
      refine pg_iconst (pc := 21) (v := 1) dX11_peg_21 (by decide) ?_
      refine pg_callS (pc := 22) (As := [.int v2, .int 0, .int 1]) (st := []) okX11_within lkX11_349 rfl (Nat.le_refl _) (Nat.le_of_ble_eq_true rfl) (e0 c0 c1) dX11_peg_22 (fun r1 M1 w1 => ?_)
      obtain ⟨x1, rfl, w1⟩ := w1
      refine pg_if_ne (pc := 25) (tgt := 31) dX11_peg_25 (by decide) (fun c2 => ?_) (fun c2 => ?_)
      · skip
        refine pg_iload_n (pc := 31) (i := 2) (j := 2) (x := v2) dX11_peg_31 rfl rfl ?_
        refine pg_if_ne (pc := 32) (tgt := 47) dX11_peg_32 (by decide) (fun c3 => ?_) (fun c3 => ?_)
        · skip
          refine pg_aload_n (pc := 47) (i := 0) (j := 0) (x := 207) dX11_peg_47 rfl rfl ?_
          refine pg_iconst (pc := 48) (v := 0) dX11_peg_48 (by decide) ?_
          refine pg_iload_n (pc := 49) (i := 1) (j := 1) (x := v1) dX11_peg_49 rfl rfl ?_
          refine pg_callV (pc := 50) (As := [.int 0, .int v1]) (st := []) okX11_heldBy lkX11_355 rfl h0.1 rfl (Nat.le_refl _) (Nat.le_of_ble_eq_true rfl) (e1 c0 c1 x1 M1 w1 c2 c3) dX11_peg_50 (fun r2 M2 w2 => ?_)
          obtain ⟨x2, rfl, w2⟩ := w2
          exact pg_iret (pc := 53) rfl dX11_peg_53 (k2 c0 c1 x1 M1 w1 c2 c3 x2 M2 w2)
        · skip
          refine pg_aload_n (pc := 35) (i := 0) (j := 0) (x := 207) dX11_peg_35 rfl rfl ?_
          refine gfX11_113 (pc := 36) rfl h0 dX11_peg_36 ?_
          refine pg_bipush (pc := 39) (v := 20) dX11_peg_39 (by decide) ?_
          refine pg_iload_n (pc := 41) (i := 1) (j := 1) (x := v1) dX11_peg_41 rfl rfl ?_
          refine pg_iadd (pc := 42) dX11_peg_42 ?_
          refine pg_iald (pc := 43) h0.2.2.2.2.2.2.2.2.2.2.2.2.2.2.1 (b0 c0 c1 x1 M1 w1 c2 c3) dX11_peg_43 ?_
          refine pg_goto (pc := 44) (tgt := 53) dX11_peg_44 (by decide) ?_
          exact pg_iret (pc := 53) rfl dX11_peg_53 (k3 c0 c1 x1 M1 w1 c2 c3)
      · skip
        refine pg_bipush (pc := 28) (v := (-2)) dX11_peg_28 (by decide) ?_
        exact pg_iret (pc := 30) rfl dX11_peg_30 (k4 c0 c1 x1 M1 w1 c2)
theorem oX11_peg {d : Nat} {v1 : Int32} {v2 : Int32} (h : pg_At S Λ YX11_peg d 0 [(0, .ref 207), (1, .int v1), (2, .int v2)] [] M P) : pg_Ev S Λ YX11_peg d [.ref 207, .int v1, .int v2] M P := pg_Ev.of (by decide) (by first | decide | exact Nat.le_of_ble_eq_true rfl) h
theorem sX11_laws_0  {Q0 : Int32 → pg_M → Prop}
    (h0 : pg_isX11 Λ)
    (e0 : pg_Ev S Λ YX11_lawsOf d [.ref 207, .int 0] (pg_si M 207 0 0) (fun r M' => ∃ x, r = some (.int x) ∧ Q0 x M'))
    (k0 : ∀ x1 M1, Q0 x1 M1 → P (some (.int x1)) M1) :
    pg_At S Λ YX11_laws (d + 1) 0 [(0, .ref 207)] [] M P := by
  refine pg_aload_n (pc := 0) (i := 0) (j := 0) (x := 207) dX11_laws_0 rfl rfl ?_
  refine pg_iconst (pc := 1) (v := 0) dX11_laws_1 (by decide) ?_
  refine pfX11_1 (pc := 2) rfl h0 dX11_laws_2 ?_
  refine pg_aload_n (pc := 5) (i := 0) (j := 0) (x := 207) dX11_laws_5 rfl rfl ?_
  refine pg_iconst (pc := 6) (v := 0) dX11_laws_6 (by decide) ?_
  refine pg_callV (pc := 7) (As := [.int 0]) (st := []) okX11_lawsOf lkX11_358 rfl h0.1 rfl (Nat.le_refl _) (Nat.le_of_ble_eq_true rfl) e0 dX11_laws_7 (fun r1 M1 w1 => ?_)
  obtain ⟨x1, rfl, w1⟩ := w1
  exact pg_iret (pc := 10) rfl dX11_laws_10 (k0 x1 M1 w1)
theorem oX11_laws {d : Nat}  (h : pg_At S Λ YX11_laws d 0 [(0, .ref 207)] [] M P) : pg_Ev S Λ YX11_laws d [.ref 207] M P := pg_Ev.of (by decide) (by first | decide | exact Nat.le_of_ble_eq_true rfl) h
theorem sX11_freePegs_0 {v1 : Int32} 
    (k0 : pg_At S Λ YX11_freePegs (d + 1) 4 [(0, .ref 207), (1, .int v1), (2, .int 0), (3, .int 0)] [] M P) :
    pg_At S Λ YX11_freePegs (d + 1) 0 [(0, .ref 207), (1, .int v1)] [] M P := by
  refine pg_iconst (pc := 0) (v := 0) dX11_freePegs_0 (by decide) ?_
  refine pg_istore_n (pc := 1) (i := 2) (ls' := [(2, .int 0), (0, .ref 207), (1, .int v1)]) dX11_freePegs_1 rfl (by decide) rfl ?_
  refine pg_iconst (pc := 2) (v := 0) dX11_freePegs_2 (by decide) ?_
  refine pg_istore_n (pc := 3) (i := 3) (ls' := [(3, .int 0), (2, .int 0), (0, .ref 207), (1, .int v1)]) dX11_freePegs_3 rfl (by decide) rfl ?_
  refine pg_drop (ks := [2, 3, 1, 0]) (ls' := [(0, .ref 207), (1, .int v1), (2, .int 0), (3, .int 0)]) rfl ?_
  exact k0
theorem sX11_freePegs_4 {v1 : Int32} {v2 : Int32} {v3 : Int32} {Q0 : Int32 → pg_M → Prop}
    (h0 : pg_isX11 Λ)
    (b0 : vp_in (v1 + 1) 1242)
    (k0 : ((M.1 221 (v1 + 1).toNatClampNeg) ≤ v3) → P (some (.int v2)) M)
    (b1 : (¬ (M.1 221 (v1 + 1).toNatClampNeg) ≤ v3) → vp_in ((v1 + 20) + v3) 1242)
    (k1 : (¬ (M.1 221 (v1 + 1).toNatClampNeg) ≤ v3) → ((M.1 221 ((v1 + 20) + v3).toNatClampNeg) ≤ 0) → pg_At S Λ YX11_freePegs (d + 1) 4 [(0, .ref 207), (1, .int v1), (2, .int (v2 ||| 0)), (3, .int (v3 + 1))] [] M P)
    (e0 : (¬ (M.1 221 (v1 + 1).toNatClampNeg) ≤ v3) → (¬ (M.1 221 ((v1 + 20) + v3).toNatClampNeg) ≤ 0) → pg_Ev S Λ YX11_heldBy d [.ref 207, .int v1, .int v3] M (fun r M' => ∃ x, r = some (.int x) ∧ Q0 x M'))
    (k2 : (¬ (M.1 221 (v1 + 1).toNatClampNeg) ≤ v3) → (¬ (M.1 221 ((v1 + 20) + v3).toNatClampNeg) ≤ 0) → ∀ x1 M1, Q0 x1 M1 → (0 ≤ x1) → pg_At S Λ YX11_freePegs (d + 1) 4 [(0, .ref 207), (1, .int v1), (2, .int (v2 ||| 0)), (3, .int (v3 + 1))] [] M1 P)
    (k3 : (¬ (M.1 221 (v1 + 1).toNatClampNeg) ≤ v3) → (¬ (M.1 221 ((v1 + 20) + v3).toNatClampNeg) ≤ 0) → ∀ x1 M1, Q0 x1 M1 → (¬ 0 ≤ x1) → pg_At S Λ YX11_freePegs (d + 1) 4 [(0, .ref 207), (1, .int v1), (2, .int (v2 ||| ((1 : Int32) <<< (v3 &&& 31)))), (3, .int (v3 + 1))] [] M1 P) :
    pg_At S Λ YX11_freePegs (d + 1) 4 [(0, .ref 207), (1, .int v1), (2, .int v2), (3, .int v3)] [] M P := by
  refine pg_iload_n (pc := 4) (i := 3) (j := 3) (x := v3) dX11_freePegs_4 rfl rfl ?_
  refine pg_aload_n (pc := 5) (i := 0) (j := 0) (x := 207) dX11_freePegs_5 rfl rfl ?_
  refine gfX11_113 (pc := 6) rfl h0 dX11_freePegs_6 ?_
  refine pg_iload_n (pc := 9) (i := 1) (j := 1) (x := v1) dX11_freePegs_9 rfl rfl ?_
  refine pg_iconst (pc := 10) (v := 1) dX11_freePegs_10 (by decide) ?_
  refine pg_iadd (pc := 11) dX11_freePegs_11 ?_
  refine pg_iald (pc := 12) h0.2.2.2.2.2.2.2.2.2.2.2.2.2.2.1 b0 dX11_freePegs_12 ?_
  refine pg_icmp_ge (pc := 13) (tgt := 55) dX11_freePegs_13 (by decide) (fun c0 => ?_) (fun c0 => ?_)
  · skip
    refine pg_iload_n (pc := 55) (i := 2) (j := 2) (x := v2) dX11_freePegs_55 rfl rfl ?_
    exact pg_iret (pc := 56) rfl dX11_freePegs_56 (k0 c0)
  · skip
    refine pg_iload_n (pc := 16) (i := 2) (j := 2) (x := v2) dX11_freePegs_16 rfl rfl ?_
    refine pg_aload_n (pc := 17) (i := 0) (j := 0) (x := 207) dX11_freePegs_17 rfl rfl ?_
    refine gfX11_113 (pc := 18) rfl h0 dX11_freePegs_18 ?_
    refine pg_iload_n (pc := 21) (i := 1) (j := 1) (x := v1) dX11_freePegs_21 rfl rfl ?_
    refine pg_bipush (pc := 22) (v := 20) dX11_freePegs_22 (by decide) ?_
    refine pg_iadd (pc := 24) dX11_freePegs_24 ?_
    refine pg_iload_n (pc := 25) (i := 3) (j := 3) (x := v3) dX11_freePegs_25 rfl rfl ?_
    refine pg_iadd (pc := 26) dX11_freePegs_26 ?_
    refine pg_iald (pc := 27) h0.2.2.2.2.2.2.2.2.2.2.2.2.2.2.1 (b1 c0) dX11_freePegs_27 ?_
    refine pg_if_le (pc := 28) (tgt := 46) dX11_freePegs_28 (by decide) (fun c1 => ?_) (fun c1 => ?_)
    · skip
      refine pg_iconst (pc := 46) (v := 0) dX11_freePegs_46 (by decide) ?_
      refine pg_ior (pc := 47) dX11_freePegs_47 ?_
      refine pg_istore_n (pc := 48) (i := 2) (ls' := [(2, .int (v2 ||| 0)), (0, .ref 207), (1, .int v1), (3, .int v3)]) dX11_freePegs_48 rfl (by decide) rfl ?_
      refine pg_iinc (pc := 49) (i := 3) (j := 3) (x := v3) (v := v3 + 1) (ls' := [(3, .int (v3 + 1)), (2, .int (v2 ||| 0)), (0, .ref 207), (1, .int v1)]) dX11_freePegs_49 rfl rfl (by decide) rfl ?_
      refine pg_goto (pc := 52) (tgt := 4) dX11_freePegs_52 (by decide) ?_
      refine pg_drop (ks := [2, 3, 1, 0]) (ls' := [(0, .ref 207), (1, .int v1), (2, .int (v2 ||| 0)), (3, .int (v3 + 1))]) rfl ?_
      exact k1 c0 c1
    · skip
      refine pg_aload_n (pc := 31) (i := 0) (j := 0) (x := 207) dX11_freePegs_31 rfl rfl ?_
      refine pg_iload_n (pc := 32) (i := 1) (j := 1) (x := v1) dX11_freePegs_32 rfl rfl ?_
      refine pg_iload_n (pc := 33) (i := 3) (j := 3) (x := v3) dX11_freePegs_33 rfl rfl ?_
      refine pg_callV (pc := 34) (As := [.int v1, .int v3]) (st := [.int v2]) okX11_heldBy lkX11_355 rfl h0.1 rfl (Nat.le_refl _) (Nat.le_of_ble_eq_true rfl) (e0 c0 c1) dX11_freePegs_34 (fun r1 M1 w1 => ?_)
      obtain ⟨x1, rfl, w1⟩ := w1
      refine pg_if_ge (pc := 37) (tgt := 46) dX11_freePegs_37 (by decide) (fun c2 => ?_) (fun c2 => ?_)
      · skip
        refine pg_iconst (pc := 46) (v := 0) dX11_freePegs_46 (by decide) ?_
        refine pg_ior (pc := 47) dX11_freePegs_47 ?_
        refine pg_istore_n (pc := 48) (i := 2) (ls' := [(2, .int (v2 ||| 0)), (0, .ref 207), (1, .int v1), (3, .int v3)]) dX11_freePegs_48 rfl (by decide) rfl ?_
        refine pg_iinc (pc := 49) (i := 3) (j := 3) (x := v3) (v := v3 + 1) (ls' := [(3, .int (v3 + 1)), (2, .int (v2 ||| 0)), (0, .ref 207), (1, .int v1)]) dX11_freePegs_49 rfl rfl (by decide) rfl ?_
        refine pg_goto (pc := 52) (tgt := 4) dX11_freePegs_52 (by decide) ?_
        refine pg_drop (ks := [2, 3, 1, 0]) (ls' := [(0, .ref 207), (1, .int v1), (2, .int (v2 ||| 0)), (3, .int (v3 + 1))]) rfl ?_
        exact k2 c0 c1 x1 M1 w1 c2
      · skip
        refine pg_iconst (pc := 40) (v := 1) dX11_freePegs_40 (by decide) ?_
        refine pg_iload_n (pc := 41) (i := 3) (j := 3) (x := v3) dX11_freePegs_41 rfl rfl ?_
        refine pg_ishl (pc := 42) dX11_freePegs_42 ?_
        refine pg_goto (pc := 43) (tgt := 47) dX11_freePegs_43 (by decide) ?_
        refine pg_ior (pc := 47) dX11_freePegs_47 ?_
        refine pg_istore_n (pc := 48) (i := 2) (ls' := [(2, .int (v2 ||| ((1 : Int32) <<< (v3 &&& 31)))), (0, .ref 207), (1, .int v1), (3, .int v3)]) dX11_freePegs_48 rfl (by decide) rfl ?_
        refine pg_iinc (pc := 49) (i := 3) (j := 3) (x := v3) (v := v3 + 1) (ls' := [(3, .int (v3 + 1)), (2, .int (v2 ||| ((1 : Int32) <<< (v3 &&& 31)))), (0, .ref 207), (1, .int v1)]) dX11_freePegs_49 rfl rfl (by decide) rfl ?_
        refine pg_goto (pc := 52) (tgt := 4) dX11_freePegs_52 (by decide) ?_
        refine pg_drop (ks := [2, 3, 1, 0]) (ls' := [(0, .ref 207), (1, .int v1), (2, .int (v2 ||| ((1 : Int32) <<< (v3 &&& 31)))), (3, .int (v3 + 1))]) rfl ?_
        exact k3 c0 c1 x1 M1 w1 c2
theorem oX11_freePegs {d : Nat} {v1 : Int32} (h : pg_At S Λ YX11_freePegs d 0 [(0, .ref 207), (1, .int v1)] [] M P) : pg_Ev S Λ YX11_freePegs d [.ref 207, .int v1] M P := pg_Ev.of (by decide) (by first | decide | exact Nat.le_of_ble_eq_true rfl) h
theorem sX11_free_0  {Q0 : Int32 → pg_M → Prop}
    (h0 : pg_isX11 Λ)
    (e0 : pg_Ev S Λ YX11_freePegs d [.ref 207, .int 0] (pg_si M 207 0 0) (fun r M' => ∃ x, r = some (.int x) ∧ Q0 x M'))
    (k0 : ∀ x1 M1, Q0 x1 M1 → P (some (.int x1)) M1) :
    pg_At S Λ YX11_free (d + 1) 0 [(0, .ref 207)] [] M P := by
  refine pg_aload_n (pc := 0) (i := 0) (j := 0) (x := 207) dX11_free_0 rfl rfl ?_
  refine pg_iconst (pc := 1) (v := 0) dX11_free_1 (by decide) ?_
  refine pfX11_1 (pc := 2) rfl h0 dX11_free_2 ?_
  refine pg_aload_n (pc := 5) (i := 0) (j := 0) (x := 207) dX11_free_5 rfl rfl ?_
  refine pg_iconst (pc := 6) (v := 0) dX11_free_6 (by decide) ?_
  refine pg_callV (pc := 7) (As := [.int 0]) (st := []) okX11_freePegs lkX11_361 rfl h0.1 rfl (Nat.le_refl _) (Nat.le_of_ble_eq_true rfl) e0 dX11_free_7 (fun r1 M1 w1 => ?_)
  obtain ⟨x1, rfl, w1⟩ := w1
  exact pg_iret (pc := 10) rfl dX11_free_10 (k0 x1 M1 w1)
theorem oX11_free {d : Nat}  (h : pg_At S Λ YX11_free d 0 [(0, .ref 207)] [] M P) : pg_Ev S Λ YX11_free d [.ref 207] M P := pg_Ev.of (by decide) (by first | decide | exact Nat.le_of_ble_eq_true rfl) h
theorem sX11_mayHang_0 {v1 : Int32} {v2 : Int32} {v3 : Int32} {Q0 : Int32 → pg_M → Prop} {Q1 : Int32 → pg_M → Prop} {Q2 : Int32 → pg_M → Prop} {Q3 : Int32 → pg_M → Prop}
    (h0 : pg_isX11 Λ)
    (e0 : pg_Ev S Λ YX11_bits d [.int v3] M (fun r M' => ∃ x, r = some (.int x) ∧ Q0 x M'))
    (e1 : ∀ x1 M1, Q0 x1 M1 → pg_Ev S Λ YX11_isHung d [.ref 207, .int v1, .int v2] M1 (fun r M' => ∃ x, r = some (.int x) ∧ Q1 x M'))
    (k0 : ∀ x1 M1, Q0 x1 M1 → ∀ x2 M2, Q1 x2 M2 → (¬ x2 = 0) → pg_At S Λ YX11_mayHang (d + 1) 48 [(0, .ref 207), (1, .int v1), (2, .int v2), (4, .int x1)] [.int 0] M2 P)
    (e2 : ∀ x1 M1, Q0 x1 M1 → ∀ x2 M2, Q1 x2 M2 → (x2 = 0) → pg_Ev S Λ YX11_freePegs d [.ref 207, .int v1] M2 (fun r M' => ∃ x, r = some (.int x) ∧ Q2 x M'))
    (k1 : ∀ x1 M1, Q0 x1 M1 → ∀ x2 M2, Q1 x2 M2 → (x2 = 0) → ∀ x3 M3, Q2 x3 M3 → (¬ (v3 &&& (x3 ^^^ (-1))) = 0) → pg_At S Λ YX11_mayHang (d + 1) 48 [(0, .ref 207), (1, .int v1), (2, .int v2), (4, .int x1)] [.int 0] M3 P)
    (e3 : ∀ x1 M1, Q0 x1 M1 → ∀ x2 M2, Q1 x2 M2 → (x2 = 0) → ∀ x3 M3, Q2 x3 M3 → ((v3 &&& (x3 ^^^ (-1))) = 0) → pg_Ev S Λ YX11_needs d [.ref 207, .int v2] M3 (fun r M' => ∃ x, r = some (.int x) ∧ Q3 x M'))
    (k2 : ∀ x1 M1, Q0 x1 M1 → ∀ x2 M2, Q1 x2 M2 → (x2 = 0) → ∀ x3 M3, Q2 x3 M3 → ((v3 &&& (x3 ^^^ (-1))) = 0) → ∀ x4 M4, Q3 x4 M4 → (x1 = x4) → pg_At S Λ YX11_mayHang (d + 1) 48 [(0, .ref 207), (1, .int v1), (2, .int v2), (4, .int x1)] [.int 1] M4 P)
    (k3 : ∀ x1 M1, Q0 x1 M1 → ∀ x2 M2, Q1 x2 M2 → (x2 = 0) → ∀ x3 M3, Q2 x3 M3 → ((v3 &&& (x3 ^^^ (-1))) = 0) → ∀ x4 M4, Q3 x4 M4 → (¬ x1 = x4) → (¬ x1 = 1) → pg_At S Λ YX11_mayHang (d + 1) 48 [(0, .ref 207), (1, .int v1), (2, .int v2), (4, .int x1)] [.int 0] M4 P)
    (k4 : ∀ x1 M1, Q0 x1 M1 → ∀ x2 M2, Q1 x2 M2 → (x2 = 0) → ∀ x3 M3, Q2 x3 M3 → ((v3 &&& (x3 ^^^ (-1))) = 0) → ∀ x4 M4, Q3 x4 M4 → (¬ x1 = x4) → (x1 = 1) → pg_At S Λ YX11_mayHang (d + 1) 48 [(0, .ref 207), (1, .int v1), (2, .int v2), (4, .int x1)] [.int 1] M4 P) :
    pg_At S Λ YX11_mayHang (d + 1) 0 [(0, .ref 207), (1, .int v1), (2, .int v2), (3, .int v3)] [] M P := by
  refine pg_iload_n (pc := 0) (i := 3) (j := 3) (x := v3) dX11_mayHang_0 rfl rfl ?_
  refine pg_callS (pc := 1) (As := [.int v3]) (st := []) okX11_bits lkX11_298 rfl (Nat.le_refl _) (Nat.le_of_ble_eq_true rfl) e0 dX11_mayHang_1 (fun r1 M1 w1 => ?_)
  obtain ⟨x1, rfl, w1⟩ := w1
  refine pg_istore (pc := 4) (i := 4) (ls' := [(4, .int x1), (0, .ref 207), (1, .int v1), (2, .int v2), (3, .int v3)]) dX11_mayHang_4 (by decide) rfl ?_
  refine pg_aload_n (pc := 6) (i := 0) (j := 1) (x := 207) dX11_mayHang_6 rfl rfl ?_
  refine pg_iload_n (pc := 7) (i := 1) (j := 2) (x := v1) dX11_mayHang_7 rfl rfl ?_
  refine pg_iload_n (pc := 8) (i := 2) (j := 3) (x := v2) dX11_mayHang_8 rfl rfl ?_
  refine pg_callV (pc := 9) (As := [.int v1, .int v2]) (st := []) okX11_isHung lkX11_304 rfl h0.1 rfl (Nat.le_refl _) (Nat.le_of_ble_eq_true rfl) (e1 x1 M1 w1) dX11_mayHang_9 (fun r2 M2 w2 => ?_)
  obtain ⟨x2, rfl, w2⟩ := w2
  refine pg_if_ne (pc := 12) (tgt := 47) dX11_mayHang_12 (by decide) (fun c0 => ?_) (fun c0 => ?_)
  · skip
    refine pg_iconst (pc := 47) (v := 0) dX11_mayHang_47 (by decide) ?_
    refine pg_drop (ks := [1, 2, 3, 0]) (ls' := [(0, .ref 207), (1, .int v1), (2, .int v2), (4, .int x1)]) rfl ?_
    exact k0 x1 M1 w1 x2 M2 w2 c0
  · skip
    refine pg_iload_n (pc := 15) (i := 3) (j := 4) (x := v3) dX11_mayHang_15 rfl rfl ?_
    refine pg_aload_n (pc := 16) (i := 0) (j := 1) (x := 207) dX11_mayHang_16 rfl rfl ?_
    refine pg_iload_n (pc := 17) (i := 1) (j := 2) (x := v1) dX11_mayHang_17 rfl rfl ?_
    refine pg_callV (pc := 18) (As := [.int v1]) (st := [.int v3]) okX11_freePegs lkX11_361 rfl h0.1 rfl (Nat.le_refl _) (Nat.le_of_ble_eq_true rfl) (e2 x1 M1 w1 x2 M2 w2 c0) dX11_mayHang_18 (fun r3 M3 w3 => ?_)
    obtain ⟨x3, rfl, w3⟩ := w3
    refine pg_iconst (pc := 21) (v := (-1)) dX11_mayHang_21 (by decide) ?_
    refine pg_ixor (pc := 22) dX11_mayHang_22 ?_
    refine pg_iand (pc := 23) dX11_mayHang_23 ?_
    refine pg_if_ne (pc := 24) (tgt := 47) dX11_mayHang_24 (by decide) (fun c1 => ?_) (fun c1 => ?_)
    · skip
      refine pg_iconst (pc := 47) (v := 0) dX11_mayHang_47 (by decide) ?_
      refine pg_drop (ks := [1, 2, 3, 0]) (ls' := [(0, .ref 207), (1, .int v1), (2, .int v2), (4, .int x1)]) rfl ?_
      exact k1 x1 M1 w1 x2 M2 w2 c0 x3 M3 w3 c1
    · skip
      refine pg_iload (pc := 27) (i := 4) (j := 0) (x := x1) dX11_mayHang_27 rfl ?_
      refine pg_aload_n (pc := 29) (i := 0) (j := 1) (x := 207) dX11_mayHang_29 rfl rfl ?_
      refine pg_iload_n (pc := 30) (i := 2) (j := 3) (x := v2) dX11_mayHang_30 rfl rfl ?_
      refine pg_callV (pc := 31) (As := [.int v2]) (st := [.int x1]) okX11_needs lkX11_301 rfl h0.1 rfl (Nat.le_refl _) (Nat.le_of_ble_eq_true rfl) (e3 x1 M1 w1 x2 M2 w2 c0 x3 M3 w3 c1) dX11_mayHang_31 (fun r4 M4 w4 => ?_)
      obtain ⟨x4, rfl, w4⟩ := w4
      refine pg_icmp_eq (pc := 34) (tgt := 43) dX11_mayHang_34 (by decide) (fun c2 => ?_) (fun c2 => ?_)
      · skip
        refine pg_iconst (pc := 43) (v := 1) dX11_mayHang_43 (by decide) ?_
        refine pg_goto (pc := 44) (tgt := 48) dX11_mayHang_44 (by decide) ?_
        refine pg_drop (ks := [1, 2, 3, 0]) (ls' := [(0, .ref 207), (1, .int v1), (2, .int v2), (4, .int x1)]) rfl ?_
        exact k2 x1 M1 w1 x2 M2 w2 c0 x3 M3 w3 c1 x4 M4 w4 c2
      · skip
        refine pg_iload (pc := 37) (i := 4) (j := 0) (x := x1) dX11_mayHang_37 rfl ?_
        refine pg_iconst (pc := 39) (v := 1) dX11_mayHang_39 (by decide) ?_
        refine pg_icmp_ne (pc := 40) (tgt := 47) dX11_mayHang_40 (by decide) (fun c3 => ?_) (fun c3 => ?_)
        · skip
          refine pg_iconst (pc := 47) (v := 0) dX11_mayHang_47 (by decide) ?_
          refine pg_drop (ks := [1, 2, 3, 0]) (ls' := [(0, .ref 207), (1, .int v1), (2, .int v2), (4, .int x1)]) rfl ?_
          exact k3 x1 M1 w1 x2 M2 w2 c0 x3 M3 w3 c1 x4 M4 w4 c2 c3
        · skip
          refine pg_iconst (pc := 43) (v := 1) dX11_mayHang_43 (by decide) ?_
          refine pg_goto (pc := 44) (tgt := 48) dX11_mayHang_44 (by decide) ?_
          refine pg_drop (ks := [1, 2, 3, 0]) (ls' := [(0, .ref 207), (1, .int v1), (2, .int v2), (4, .int x1)]) rfl ?_
          exact k4 x1 M1 w1 x2 M2 w2 c0 x3 M3 w3 c1 x4 M4 w4 c2 c3
theorem sX11_mayHang_48 {v1 : Int32} {v2 : Int32} {v4 : Int32} {s0 : Int32} {Q0 : Int32 → pg_M → Prop} {Q1 : Int32 → pg_M → Prop}
    (h0 : pg_isX11 Λ)
    (k0 : (s0 = 0) → P (some (.int 0)) M)
    (e0 : (¬ s0 = 0) → pg_Ev S Λ YX11_roomBy d [.ref 207, .int v2, .int v4] M (fun r M' => ∃ x, r = some (.int x) ∧ Q0 x M'))
    (e1 : (¬ s0 = 0) → ∀ x1 M1, Q0 x1 M1 → pg_Ev S Λ YX11_roomLeft d [.ref 207, .int v1] M1 (fun r M' => ∃ x, r = some (.int x) ∧ Q1 x M'))
    (k1 : (¬ s0 = 0) → ∀ x1 M1, Q0 x1 M1 → ∀ x2 M2, Q1 x2 M2 → (x2 < x1) → P (some (.int 0)) M2)
    (k2 : (¬ s0 = 0) → ∀ x1 M1, Q0 x1 M1 → ∀ x2 M2, Q1 x2 M2 → (¬ x2 < x1) → P (some (.int 1)) M2) :
    pg_At S Λ YX11_mayHang (d + 1) 48 [(0, .ref 207), (1, .int v1), (2, .int v2), (4, .int v4)] [.int s0] M P := by
  refine pg_istore (pc := 48) (i := 5) (ls' := [(5, .int s0), (0, .ref 207), (1, .int v1), (2, .int v2), (4, .int v4)]) dX11_mayHang_48 (by decide) rfl ?_
  refine pg_iload (pc := 50) (i := 5) (j := 0) (x := s0) dX11_mayHang_50 rfl ?_
  refine pg_if_eq (pc := 52) (tgt := 74) dX11_mayHang_52 (by decide) (fun c0 => ?_) (fun c0 => ?_)
  · skip
    refine pg_iconst (pc := 74) (v := 0) dX11_mayHang_74 (by decide) ?_
    exact pg_zret (pc := 75) rfl rfl dX11_mayHang_75 (k0 c0)
  · skip
    refine pg_aload_n (pc := 55) (i := 0) (j := 1) (x := 207) dX11_mayHang_55 rfl rfl ?_
    refine pg_iload_n (pc := 56) (i := 2) (j := 3) (x := v2) dX11_mayHang_56 rfl rfl ?_
    refine pg_iload (pc := 57) (i := 4) (j := 4) (x := v4) dX11_mayHang_57 rfl ?_
    refine pg_callV (pc := 59) (As := [.int v2, .int v4]) (st := []) okX11_roomBy lkX11_308 rfl h0.1 rfl (Nat.le_refl _) (Nat.le_of_ble_eq_true rfl) (e0 c0) dX11_mayHang_59 (fun r1 M1 w1 => ?_)
    obtain ⟨x1, rfl, w1⟩ := w1
    refine pg_aload_n (pc := 62) (i := 0) (j := 1) (x := 207) dX11_mayHang_62 rfl rfl ?_
    refine pg_iload_n (pc := 63) (i := 1) (j := 2) (x := v1) dX11_mayHang_63 rfl rfl ?_
    refine pg_callV (pc := 64) (As := [.int v1]) (st := [.int x1]) okX11_roomLeft lkX11_364 rfl h0.1 rfl (Nat.le_refl _) (Nat.le_of_ble_eq_true rfl) (e1 c0 x1 M1 w1) dX11_mayHang_64 (fun r2 M2 w2 => ?_)
    obtain ⟨x2, rfl, w2⟩ := w2
    refine pg_icmp_gt (pc := 67) (tgt := 74) dX11_mayHang_67 (by decide) (fun c1 => ?_) (fun c1 => ?_)
    · skip
      refine pg_iconst (pc := 74) (v := 0) dX11_mayHang_74 (by decide) ?_
      exact pg_zret (pc := 75) rfl rfl dX11_mayHang_75 (k1 c0 x1 M1 w1 x2 M2 w2 c1)
    · skip
      refine pg_iconst (pc := 70) (v := 1) dX11_mayHang_70 (by decide) ?_
      refine pg_goto (pc := 71) (tgt := 75) dX11_mayHang_71 (by decide) ?_
      exact pg_zret (pc := 75) rfl rfl dX11_mayHang_75 (k2 c0 x1 M1 w1 x2 M2 w2 c1)
theorem oX11_mayHang {d : Nat} {v1 : Int32} {v2 : Int32} {v3 : Int32} (h : pg_At S Λ YX11_mayHang d 0 [(0, .ref 207), (1, .int v1), (2, .int v2), (3, .int v3)] [] M P) : pg_Ev S Λ YX11_mayHang d [.ref 207, .int v1, .int v2, .int v3] M P := pg_Ev.of (by decide) (by first | decide | exact Nat.le_of_ble_eq_true rfl) h
theorem sX11_hang_0 {v1 : Int32} {v2 : Int32} {Q0 : Int32 → pg_M → Prop} {Q1 : Int32 → pg_M → Prop} {Q2 : Int32 → pg_M → Prop} {Q3 : pg_M → Prop} {Q4 : Int32 → pg_M → Prop}
    (h0 : pg_isX11 Λ)
    (e0 : pg_Ev S Λ YX11_isCloth d [.ref 207, .int v1] (pg_si M 207 0 0) (fun r M' => ∃ x, r = some (.int x) ∧ Q0 x M'))
    (k0 : ∀ x1 M1, Q0 x1 M1 → (x1 = 0) → P (some (.int (-1))) M1)
    (e1 : ∀ x1 M1, Q0 x1 M1 → (¬ x1 = 0) → pg_Ev S Λ YX11_within d [.int v2, .int 1, .int 255] M1 (fun r M' => ∃ x, r = some (.int x) ∧ Q1 x M'))
    (k1 : ∀ x1 M1, Q0 x1 M1 → (¬ x1 = 0) → ∀ x2 M2, Q1 x2 M2 → (x2 = 0) → P (some (.int (-1))) M2)
    (e2 : ∀ x1 M1, Q0 x1 M1 → (¬ x1 = 0) → ∀ x2 M2, Q1 x2 M2 → (¬ x2 = 0) → pg_Ev S Λ YX11_mayHang d [.ref 207, .int 0, .int v1, .int v2] M2 (fun r M' => ∃ x, r = some (.int x) ∧ Q2 x M'))
    (e3 : ∀ x1 M1, Q0 x1 M1 → (¬ x1 = 0) → ∀ x2 M2, Q1 x2 M2 → (¬ x2 = 0) → ∀ x3 M3, Q2 x3 M3 → (¬ x3 = 0) → pg_Ev S Λ YX11_keeps d [.ref 207] M3 (fun r M' => r = none ∧ Q3 M'))
    (b0 : ∀ x1 M1, Q0 x1 M1 → (¬ x1 = 0) → ∀ x2 M2, Q1 x2 M2 → (¬ x2 = 0) → ∀ x3 M3, Q2 x3 M3 → (¬ x3 = 0) → ∀ M4, Q3 M4 → vp_in (14 + v1) 1242)
    (e4 : ∀ x1 M1, Q0 x1 M1 → (¬ x1 = 0) → ∀ x2 M2, Q1 x2 M2 → (¬ x2 = 0) → ∀ x3 M3, Q2 x3 M3 → (¬ x3 = 0) → ∀ M4, Q3 M4 → pg_Ev S Λ YX11_roomLeft d [.ref 207, .int 0] (pg_si M4 221 (14 + v1).toNatClampNeg v2) (fun r M' => ∃ x, r = some (.int x) ∧ Q4 x M'))
    (k2 : ∀ x1 M1, Q0 x1 M1 → (¬ x1 = 0) → ∀ x2 M2, Q1 x2 M2 → (¬ x2 = 0) → ∀ x3 M3, Q2 x3 M3 → (¬ x3 = 0) → ∀ M4, Q3 M4 → ∀ x5 M5, Q4 x5 M5 → P (some (.int x5)) M5)
    (k3 : ∀ x1 M1, Q0 x1 M1 → (¬ x1 = 0) → ∀ x2 M2, Q1 x2 M2 → (¬ x2 = 0) → ∀ x3 M3, Q2 x3 M3 → (x3 = 0) → P (some (.int (-1))) M3) :
    pg_At S Λ YX11_hang (d + 1) 0 [(0, .ref 207), (1, .int v1), (2, .int v2)] [] M P := by
  refine pg_aload_n (pc := 0) (i := 0) (j := 0) (x := 207) dX11_hang_0 rfl rfl ?_
  refine pg_iconst (pc := 1) (v := 0) dX11_hang_1 (by decide) ?_
  refine pfX11_1 (pc := 2) rfl h0 dX11_hang_2 ?_
  refine pg_aload_n (pc := 5) (i := 0) (j := 0) (x := 207) dX11_hang_5 rfl rfl ?_
  refine pg_iload_n (pc := 6) (i := 1) (j := 1) (x := v1) dX11_hang_6 rfl rfl ?_
  refine pg_callV (pc := 7) (As := [.int v1]) (st := []) okX11_isCloth lkX11_346 rfl h0.1 rfl (Nat.le_refl _) (Nat.le_of_ble_eq_true rfl) e0 dX11_hang_7 (fun r1 M1 w1 => ?_)
  obtain ⟨x1, rfl, w1⟩ := w1
  refine pg_if_eq (pc := 10) (tgt := 34) dX11_hang_10 (by decide) (fun c0 => ?_) (fun c0 => ?_)
  · skip
    refine pg_iconst (pc := 34) (v := (-1)) dX11_hang_34 (by decide) ?_
    exact pg_iret (pc := 35) rfl dX11_hang_35 (k0 x1 M1 w1 c0)
  · skip
    refine pg_iload_n (pc := 13) (i := 2) (j := 2) (x := v2) dX11_hang_13 rfl rfl ?_
    refine pg_iconst (pc := 14) (v := 1) dX11_hang_14 (by decide) ?_
    refine pg_sipush (pc := 15) (v := 255) dX11_hang_15 (by decide) ?_
    refine pg_callS (pc := 18) (As := [.int v2, .int 1, .int 255]) (st := []) okX11_within lkX11_349 rfl (Nat.le_refl _) (Nat.le_of_ble_eq_true rfl) (e1 x1 M1 w1 c0) dX11_hang_18 (fun r2 M2 w2 => ?_)
    obtain ⟨x2, rfl, w2⟩ := w2
    refine pg_if_eq (pc := 21) (tgt := 34) dX11_hang_21 (by decide) (fun c1 => ?_) (fun c1 => ?_)
    · skip
      refine pg_iconst (pc := 34) (v := (-1)) dX11_hang_34 (by decide) ?_
      exact pg_iret (pc := 35) rfl dX11_hang_35 (k1 x1 M1 w1 c0 x2 M2 w2 c1)
    · skip
      refine pg_aload_n (pc := 24) (i := 0) (j := 0) (x := 207) dX11_hang_24 rfl rfl ?_
      refine pg_iconst (pc := 25) (v := 0) dX11_hang_25 (by decide) ?_
      refine pg_iload_n (pc := 26) (i := 1) (j := 1) (x := v1) dX11_hang_26 rfl rfl ?_
      refine pg_iload_n (pc := 27) (i := 2) (j := 2) (x := v2) dX11_hang_27 rfl rfl ?_
      refine pg_callV (pc := 28) (As := [.int 0, .int v1, .int v2]) (st := []) okX11_mayHang lkX11_367 rfl h0.1 rfl (Nat.le_refl _) (Nat.le_of_ble_eq_true rfl) (e2 x1 M1 w1 c0 x2 M2 w2 c1) dX11_hang_28 (fun r3 M3 w3 => ?_)
      obtain ⟨x3, rfl, w3⟩ := w3
      refine pg_if_ne (pc := 31) (tgt := 36) dX11_hang_31 (by decide) (fun c2 => ?_) (fun c2 => ?_)
      · skip
        refine pg_aload_n (pc := 36) (i := 0) (j := 0) (x := 207) dX11_hang_36 rfl rfl ?_
        refine pg_callV (pc := 37) (As := []) (st := []) okX11_keeps lkX11_370 rfl h0.1 rfl (Nat.le_refl _) (Nat.le_of_ble_eq_true rfl) (e3 x1 M1 w1 c0 x2 M2 w2 c1 x3 M3 w3 c2) dX11_hang_37 (fun r4 M4 w4 => ?_)
        obtain ⟨rfl, w4⟩ := w4
        refine pg_aload_n (pc := 40) (i := 0) (j := 0) (x := 207) dX11_hang_40 rfl rfl ?_
        refine gfX11_113 (pc := 41) rfl h0 dX11_hang_41 ?_
        refine pg_bipush (pc := 44) (v := 14) dX11_hang_44 (by decide) ?_
        refine pg_iload_n (pc := 46) (i := 1) (j := 1) (x := v1) dX11_hang_46 rfl rfl ?_
        refine pg_iadd (pc := 47) dX11_hang_47 ?_
        refine pg_iload_n (pc := 48) (i := 2) (j := 2) (x := v2) dX11_hang_48 rfl rfl ?_
        refine pg_iast (pc := 49) h0.2.2.2.2.2.2.2.2.2.2.2.2.2.2.1 (b0 x1 M1 w1 c0 x2 M2 w2 c1 x3 M3 w3 c2 M4 w4) dX11_hang_49 ?_
        refine pg_aload_n (pc := 50) (i := 0) (j := 0) (x := 207) dX11_hang_50 rfl rfl ?_
        refine pg_iconst (pc := 51) (v := 0) dX11_hang_51 (by decide) ?_
        refine pg_callV (pc := 52) (As := [.int 0]) (st := []) okX11_roomLeft lkX11_364 rfl h0.1 rfl (Nat.le_refl _) (Nat.le_of_ble_eq_true rfl) (e4 x1 M1 w1 c0 x2 M2 w2 c1 x3 M3 w3 c2 M4 w4) dX11_hang_52 (fun r5 M5 w5 => ?_)
        obtain ⟨x5, rfl, w5⟩ := w5
        exact pg_iret (pc := 55) rfl dX11_hang_55 (k2 x1 M1 w1 c0 x2 M2 w2 c1 x3 M3 w3 c2 M4 w4 x5 M5 w5)
      · skip
        refine pg_iconst (pc := 34) (v := (-1)) dX11_hang_34 (by decide) ?_
        exact pg_iret (pc := 35) rfl dX11_hang_35 (k3 x1 M1 w1 c0 x2 M2 w2 c1 x3 M3 w3 c2)
theorem oX11_hang {d : Nat} {v1 : Int32} {v2 : Int32} (h : pg_At S Λ YX11_hang d 0 [(0, .ref 207), (1, .int v1), (2, .int v2)] [] M P) : pg_Ev S Λ YX11_hang d [.ref 207, .int v1, .int v2] M P := pg_Ev.of (by decide) (by first | decide | exact Nat.le_of_ble_eq_true rfl) h
theorem sX11_take_0 {v1 : Int32} {Q0 : Int32 → pg_M → Prop} {Q1 : Int32 → pg_M → Prop} {Q2 : pg_M → Prop}
    (h0 : pg_isX11 Λ)
    (e0 : pg_Ev S Λ YX11_isCloth d [.ref 207, .int v1] (pg_si M 207 0 0) (fun r M' => ∃ x, r = some (.int x) ∧ Q0 x M'))
    (k0 : ∀ x1 M1, Q0 x1 M1 → (x1 = 0) → P (some (.int 0)) M1)
    (e1 : ∀ x1 M1, Q0 x1 M1 → (¬ x1 = 0) → pg_Ev S Λ YX11_isHung d [.ref 207, .int 0, .int v1] M1 (fun r M' => ∃ x, r = some (.int x) ∧ Q1 x M'))
    (e2 : ∀ x1 M1, Q0 x1 M1 → (¬ x1 = 0) → ∀ x2 M2, Q1 x2 M2 → (¬ x2 = 0) → pg_Ev S Λ YX11_keeps d [.ref 207] M2 (fun r M' => r = none ∧ Q2 M'))
    (b0 : ∀ x1 M1, Q0 x1 M1 → (¬ x1 = 0) → ∀ x2 M2, Q1 x2 M2 → (¬ x2 = 0) → ∀ M3, Q2 M3 → vp_in (14 + v1) 1242)
    (k1 : ∀ x1 M1, Q0 x1 M1 → (¬ x1 = 0) → ∀ x2 M2, Q1 x2 M2 → (¬ x2 = 0) → ∀ M3, Q2 M3 → P (some (.int 1)) (pg_si M3 221 (14 + v1).toNatClampNeg 0))
    (k2 : ∀ x1 M1, Q0 x1 M1 → (¬ x1 = 0) → ∀ x2 M2, Q1 x2 M2 → (x2 = 0) → P (some (.int 0)) M2) :
    pg_At S Λ YX11_take (d + 1) 0 [(0, .ref 207), (1, .int v1)] [] M P := by
  refine pg_aload_n (pc := 0) (i := 0) (j := 0) (x := 207) dX11_take_0 rfl rfl ?_
  refine pg_iconst (pc := 1) (v := 0) dX11_take_1 (by decide) ?_
  refine pfX11_1 (pc := 2) rfl h0 dX11_take_2 ?_
  refine pg_aload_n (pc := 5) (i := 0) (j := 0) (x := 207) dX11_take_5 rfl rfl ?_
  refine pg_iload_n (pc := 6) (i := 1) (j := 1) (x := v1) dX11_take_6 rfl rfl ?_
  refine pg_callV (pc := 7) (As := [.int v1]) (st := []) okX11_isCloth lkX11_346 rfl h0.1 rfl (Nat.le_refl _) (Nat.le_of_ble_eq_true rfl) e0 dX11_take_7 (fun r1 M1 w1 => ?_)
  obtain ⟨x1, rfl, w1⟩ := w1
  refine pg_if_eq (pc := 10) (tgt := 22) dX11_take_10 (by decide) (fun c0 => ?_) (fun c0 => ?_)
  · skip
    refine pg_iconst (pc := 22) (v := 0) dX11_take_22 (by decide) ?_
    exact pg_zret (pc := 23) rfl rfl dX11_take_23 (k0 x1 M1 w1 c0)
  · skip
    refine pg_aload_n (pc := 13) (i := 0) (j := 0) (x := 207) dX11_take_13 rfl rfl ?_
    refine pg_iconst (pc := 14) (v := 0) dX11_take_14 (by decide) ?_
    refine pg_iload_n (pc := 15) (i := 1) (j := 1) (x := v1) dX11_take_15 rfl rfl ?_
    refine pg_callV (pc := 16) (As := [.int 0, .int v1]) (st := []) okX11_isHung lkX11_304 rfl h0.1 rfl (Nat.le_refl _) (Nat.le_of_ble_eq_true rfl) (e1 x1 M1 w1 c0) dX11_take_16 (fun r2 M2 w2 => ?_)
    obtain ⟨x2, rfl, w2⟩ := w2
    refine pg_if_ne (pc := 19) (tgt := 24) dX11_take_19 (by decide) (fun c1 => ?_) (fun c1 => ?_)
    · skip
      refine pg_aload_n (pc := 24) (i := 0) (j := 0) (x := 207) dX11_take_24 rfl rfl ?_
      refine pg_callV (pc := 25) (As := []) (st := []) okX11_keeps lkX11_370 rfl h0.1 rfl (Nat.le_refl _) (Nat.le_of_ble_eq_true rfl) (e2 x1 M1 w1 c0 x2 M2 w2 c1) dX11_take_25 (fun r3 M3 w3 => ?_)
      obtain ⟨rfl, w3⟩ := w3
      refine pg_aload_n (pc := 28) (i := 0) (j := 0) (x := 207) dX11_take_28 rfl rfl ?_
      refine gfX11_113 (pc := 29) rfl h0 dX11_take_29 ?_
      refine pg_bipush (pc := 32) (v := 14) dX11_take_32 (by decide) ?_
      refine pg_iload_n (pc := 34) (i := 1) (j := 1) (x := v1) dX11_take_34 rfl rfl ?_
      refine pg_iadd (pc := 35) dX11_take_35 ?_
      refine pg_iconst (pc := 36) (v := 0) dX11_take_36 (by decide) ?_
      refine pg_iast (pc := 37) h0.2.2.2.2.2.2.2.2.2.2.2.2.2.2.1 (b0 x1 M1 w1 c0 x2 M2 w2 c1 M3 w3) dX11_take_37 ?_
      refine pg_iconst (pc := 38) (v := 1) dX11_take_38 (by decide) ?_
      exact pg_zret (pc := 39) rfl rfl dX11_take_39 (k1 x1 M1 w1 c0 x2 M2 w2 c1 M3 w3)
    · skip
      refine pg_iconst (pc := 22) (v := 0) dX11_take_22 (by decide) ?_
      exact pg_zret (pc := 23) rfl rfl dX11_take_23 (k2 x1 M1 w1 c0 x2 M2 w2 c1)
theorem oX11_take {d : Nat} {v1 : Int32} (h : pg_At S Λ YX11_take d 0 [(0, .ref 207), (1, .int v1)] [] M P) : pg_Ev S Λ YX11_take d [.ref 207, .int v1] M P := pg_Ev.of (by decide) (by first | decide | exact Nat.le_of_ble_eq_true rfl) h
theorem sX11_washes_0 {v1 : Int32} {v2 : Int32} 
    (h0 : pg_isX11 Λ)
    (b0 : vp_in ((v1 + 8) + v2) 1242)
    (b1 : vp_in ((v1 + 2) + v2) 1242)
    (k0 : P (some (.int (M.1 221 ((v1 + 8) + v2).toNatClampNeg))) (pg_si (pg_si M 221 ((v1 + 8) + v2).toNatClampNeg 0) 221 ((v1 + 2) + v2).toNatClampNeg 9)) :
    pg_At S Λ YX11_washes d 0 [(0, .ref 207), (1, .int v1), (2, .int v2)] [] M P := by
  refine pg_aload_n (pc := 0) (i := 0) (j := 0) (x := 207) dX11_washes_0 rfl rfl ?_
  refine gfX11_113 (pc := 1) rfl h0 dX11_washes_1 ?_
  refine pg_iload_n (pc := 4) (i := 1) (j := 1) (x := v1) dX11_washes_4 rfl rfl ?_
  refine pg_bipush (pc := 5) (v := 8) dX11_washes_5 (by decide) ?_
  refine pg_iadd (pc := 7) dX11_washes_7 ?_
  refine pg_iload_n (pc := 8) (i := 2) (j := 2) (x := v2) dX11_washes_8 rfl rfl ?_
  refine pg_iadd (pc := 9) dX11_washes_9 ?_
  refine pg_iald (pc := 10) h0.2.2.2.2.2.2.2.2.2.2.2.2.2.2.1 b0 dX11_washes_10 ?_
  refine pg_istore_n (pc := 11) (i := 3) (ls' := [(3, .int (M.1 221 ((v1 + 8) + v2).toNatClampNeg)), (0, .ref 207), (1, .int v1), (2, .int v2)]) dX11_washes_11 rfl (by decide) rfl ?_
  refine pg_aload_n (pc := 12) (i := 0) (j := 1) (x := 207) dX11_washes_12 rfl rfl ?_
  refine gfX11_113 (pc := 13) rfl h0 dX11_washes_13 ?_
  refine pg_iload_n (pc := 16) (i := 1) (j := 2) (x := v1) dX11_washes_16 rfl rfl ?_
  refine pg_bipush (pc := 17) (v := 8) dX11_washes_17 (by decide) ?_
  refine pg_iadd (pc := 19) dX11_washes_19 ?_
  refine pg_iload_n (pc := 20) (i := 2) (j := 3) (x := v2) dX11_washes_20 rfl rfl ?_
  refine pg_iadd (pc := 21) dX11_washes_21 ?_
  refine pg_iconst (pc := 22) (v := 0) dX11_washes_22 (by decide) ?_
  refine pg_iast (pc := 23) h0.2.2.2.2.2.2.2.2.2.2.2.2.2.2.1 b0 dX11_washes_23 ?_
  refine pg_aload_n (pc := 24) (i := 0) (j := 1) (x := 207) dX11_washes_24 rfl rfl ?_
  refine gfX11_113 (pc := 25) rfl h0 dX11_washes_25 ?_
  refine pg_iload_n (pc := 28) (i := 1) (j := 2) (x := v1) dX11_washes_28 rfl rfl ?_
  refine pg_iconst (pc := 29) (v := 2) dX11_washes_29 (by decide) ?_
  refine pg_iadd (pc := 30) dX11_washes_30 ?_
  refine pg_iload_n (pc := 31) (i := 2) (j := 3) (x := v2) dX11_washes_31 rfl rfl ?_
  refine pg_iadd (pc := 32) dX11_washes_32 ?_
  refine pg_bipush (pc := 33) (v := 9) dX11_washes_33 (by decide) ?_
  refine pg_iast (pc := 35) h0.2.2.2.2.2.2.2.2.2.2.2.2.2.2.1 b1 dX11_washes_35 ?_
  refine pg_iload_n (pc := 36) (i := 3) (j := 0) (x := (M.1 221 ((v1 + 8) + v2).toNatClampNeg)) dX11_washes_36 rfl rfl ?_
  exact pg_iret (pc := 37) rfl dX11_washes_37 k0
theorem oX11_washes {d : Nat} {v1 : Int32} {v2 : Int32} (h : pg_At S Λ YX11_washes d 0 [(0, .ref 207), (1, .int v1), (2, .int v2)] [] M P) : pg_Ev S Λ YX11_washes d [.ref 207, .int v1, .int v2] M P := pg_Ev.of (by decide) (by first | decide | exact Nat.le_of_ble_eq_true rfl) h
theorem sX11_wash_0 {v1 : Int32} {Q0 : Int32 → pg_M → Prop} {Q1 : Int32 → pg_M → Prop} {Q2 : pg_M → Prop} {Q3 : Int32 → pg_M → Prop}
    (h0 : pg_isX11 Λ)
    (e0 : pg_Ev S Λ YX11_isCloth d [.ref 207, .int v1] (pg_si M 207 0 0) (fun r M' => ∃ x, r = some (.int x) ∧ Q0 x M'))
    (k0 : ∀ x1 M1, Q0 x1 M1 → (x1 = 0) → P (some (.int (-1))) M1)
    (e1 : ∀ x1 M1, Q0 x1 M1 → (¬ x1 = 0) → pg_Ev S Λ YX11_isHung d [.ref 207, .int 0, .int v1] M1 (fun r M' => ∃ x, r = some (.int x) ∧ Q1 x M'))
    (e2 : ∀ x1 M1, Q0 x1 M1 → (¬ x1 = 0) → ∀ x2 M2, Q1 x2 M2 → (x2 = 0) → pg_Ev S Λ YX11_keeps d [.ref 207] M2 (fun r M' => r = none ∧ Q2 M'))
    (e3 : ∀ x1 M1, Q0 x1 M1 → (¬ x1 = 0) → ∀ x2 M2, Q1 x2 M2 → (x2 = 0) → ∀ M3, Q2 M3 → pg_Ev S Λ YX11_washes d [.ref 207, .int 0, .int v1] M3 (fun r M' => ∃ x, r = some (.int x) ∧ Q3 x M'))
    (k1 : ∀ x1 M1, Q0 x1 M1 → (¬ x1 = 0) → ∀ x2 M2, Q1 x2 M2 → (x2 = 0) → ∀ M3, Q2 M3 → ∀ x4 M4, Q3 x4 M4 → P (some (.int x4)) M4)
    (k2 : ∀ x1 M1, Q0 x1 M1 → (¬ x1 = 0) → ∀ x2 M2, Q1 x2 M2 → (¬ x2 = 0) → P (some (.int (-1))) M2) :
    pg_At S Λ YX11_wash (d + 1) 0 [(0, .ref 207), (1, .int v1)] [] M P := by
  refine pg_aload_n (pc := 0) (i := 0) (j := 0) (x := 207) dX11_wash_0 rfl rfl ?_
  refine pg_iconst (pc := 1) (v := 0) dX11_wash_1 (by decide) ?_
  refine pfX11_1 (pc := 2) rfl h0 dX11_wash_2 ?_
  refine pg_aload_n (pc := 5) (i := 0) (j := 0) (x := 207) dX11_wash_5 rfl rfl ?_
  refine pg_iload_n (pc := 6) (i := 1) (j := 1) (x := v1) dX11_wash_6 rfl rfl ?_
  refine pg_callV (pc := 7) (As := [.int v1]) (st := []) okX11_isCloth lkX11_346 rfl h0.1 rfl (Nat.le_refl _) (Nat.le_of_ble_eq_true rfl) e0 dX11_wash_7 (fun r1 M1 w1 => ?_)
  obtain ⟨x1, rfl, w1⟩ := w1
  refine pg_if_eq (pc := 10) (tgt := 22) dX11_wash_10 (by decide) (fun c0 => ?_) (fun c0 => ?_)
  · skip
    refine pg_iconst (pc := 22) (v := (-1)) dX11_wash_22 (by decide) ?_
    exact pg_iret (pc := 23) rfl dX11_wash_23 (k0 x1 M1 w1 c0)
  · skip
    refine pg_aload_n (pc := 13) (i := 0) (j := 0) (x := 207) dX11_wash_13 rfl rfl ?_
    refine pg_iconst (pc := 14) (v := 0) dX11_wash_14 (by decide) ?_
    refine pg_iload_n (pc := 15) (i := 1) (j := 1) (x := v1) dX11_wash_15 rfl rfl ?_
    refine pg_callV (pc := 16) (As := [.int 0, .int v1]) (st := []) okX11_isHung lkX11_304 rfl h0.1 rfl (Nat.le_refl _) (Nat.le_of_ble_eq_true rfl) (e1 x1 M1 w1 c0) dX11_wash_16 (fun r2 M2 w2 => ?_)
    obtain ⟨x2, rfl, w2⟩ := w2
    refine pg_if_eq (pc := 19) (tgt := 24) dX11_wash_19 (by decide) (fun c1 => ?_) (fun c1 => ?_)
    · skip
      refine pg_aload_n (pc := 24) (i := 0) (j := 0) (x := 207) dX11_wash_24 rfl rfl ?_
      refine pg_callV (pc := 25) (As := []) (st := []) okX11_keeps lkX11_370 rfl h0.1 rfl (Nat.le_refl _) (Nat.le_of_ble_eq_true rfl) (e2 x1 M1 w1 c0 x2 M2 w2 c1) dX11_wash_25 (fun r3 M3 w3 => ?_)
      obtain ⟨rfl, w3⟩ := w3
      refine pg_aload_n (pc := 28) (i := 0) (j := 0) (x := 207) dX11_wash_28 rfl rfl ?_
      refine pg_iconst (pc := 29) (v := 0) dX11_wash_29 (by decide) ?_
      refine pg_iload_n (pc := 30) (i := 1) (j := 1) (x := v1) dX11_wash_30 rfl rfl ?_
      refine pg_callV (pc := 31) (As := [.int 0, .int v1]) (st := []) okX11_washes lkX11_373 rfl h0.1 rfl (Nat.le_refl _) (Nat.le_of_ble_eq_true rfl) (e3 x1 M1 w1 c0 x2 M2 w2 c1 M3 w3) dX11_wash_31 (fun r4 M4 w4 => ?_)
      obtain ⟨x4, rfl, w4⟩ := w4
      exact pg_iret (pc := 34) rfl dX11_wash_34 (k1 x1 M1 w1 c0 x2 M2 w2 c1 M3 w3 x4 M4 w4)
    · skip
      refine pg_iconst (pc := 22) (v := (-1)) dX11_wash_22 (by decide) ?_
      exact pg_iret (pc := 23) rfl dX11_wash_23 (k2 x1 M1 w1 c0 x2 M2 w2 c1)
theorem oX11_wash {d : Nat} {v1 : Int32} (h : pg_At S Λ YX11_wash d 0 [(0, .ref 207), (1, .int v1)] [] M P) : pg_Ev S Λ YX11_wash d [.ref 207, .int v1] M P := pg_Ev.of (by decide) (by first | decide | exact Nat.le_of_ble_eq_true rfl) h
theorem sX11_buys_0 {v1 : Int32} {v2 : Int32} 
    (h0 : pg_isX11 Λ)
    (b0 : vp_in (v1 + 1) 1242)
    (b1 : vp_in ((v1 + 20) + (M.1 221 (v1 + 1).toNatClampNeg)) 1242)
    (k0 : ∀ N1, N1 = pg_si (pg_si M 221 ((v1 + 20) + (M.1 221 (v1 + 1).toNatClampNeg)).toNatClampNeg v2) 221 (v1 + 1).toNatClampNeg (((pg_si M 221 ((v1 + 20) + (M.1 221 (v1 + 1).toNatClampNeg)).toNatClampNeg v2).1 221 (v1 + 1).toNatClampNeg) + 1) → P (some (.int (M.1 221 (v1 + 1).toNatClampNeg))) N1) :
    pg_At S Λ YX11_buys d 0 [(0, .ref 207), (1, .int v1), (2, .int v2)] [] M P := by
  refine pg_aload_n (pc := 0) (i := 0) (j := 0) (x := 207) dX11_buys_0 rfl rfl ?_
  refine gfX11_113 (pc := 1) rfl h0 dX11_buys_1 ?_
  refine pg_iload_n (pc := 4) (i := 1) (j := 1) (x := v1) dX11_buys_4 rfl rfl ?_
  refine pg_iconst (pc := 5) (v := 1) dX11_buys_5 (by decide) ?_
  refine pg_iadd (pc := 6) dX11_buys_6 ?_
  refine pg_iald (pc := 7) h0.2.2.2.2.2.2.2.2.2.2.2.2.2.2.1 b0 dX11_buys_7 ?_
  refine pg_istore_n (pc := 8) (i := 3) (ls' := [(3, .int (M.1 221 (v1 + 1).toNatClampNeg)), (0, .ref 207), (1, .int v1), (2, .int v2)]) dX11_buys_8 rfl (by decide) rfl ?_
  refine pg_aload_n (pc := 9) (i := 0) (j := 1) (x := 207) dX11_buys_9 rfl rfl ?_
  refine gfX11_113 (pc := 10) rfl h0 dX11_buys_10 ?_
  refine pg_iload_n (pc := 13) (i := 1) (j := 2) (x := v1) dX11_buys_13 rfl rfl ?_
  refine pg_bipush (pc := 14) (v := 20) dX11_buys_14 (by decide) ?_
  refine pg_iadd (pc := 16) dX11_buys_16 ?_
  refine pg_iload_n (pc := 17) (i := 3) (j := 0) (x := (M.1 221 (v1 + 1).toNatClampNeg)) dX11_buys_17 rfl rfl ?_
  refine pg_iadd (pc := 18) dX11_buys_18 ?_
  refine pg_iload_n (pc := 19) (i := 2) (j := 3) (x := v2) dX11_buys_19 rfl rfl ?_
  refine pg_iast (pc := 20) h0.2.2.2.2.2.2.2.2.2.2.2.2.2.2.1 b1 dX11_buys_20 ?_
  refine pg_aload_n (pc := 21) (i := 0) (j := 1) (x := 207) dX11_buys_21 rfl rfl ?_
  refine gfX11_113 (pc := 22) rfl h0 dX11_buys_22 ?_
  refine pg_iload_n (pc := 25) (i := 1) (j := 2) (x := v1) dX11_buys_25 rfl rfl ?_
  refine pg_iconst (pc := 26) (v := 1) dX11_buys_26 (by decide) ?_
  refine pg_iadd (pc := 27) dX11_buys_27 ?_
  refine pg_dup2_11 (pc := 28) dX11_buys_28 rfl rfl ?_
  refine pg_iald (pc := 29) h0.2.2.2.2.2.2.2.2.2.2.2.2.2.2.1 b0 dX11_buys_29 ?_
  refine pg_iconst (pc := 30) (v := 1) dX11_buys_30 (by decide) ?_
  refine pg_iadd (pc := 31) dX11_buys_31 ?_
  refine pg_iast (pc := 32) h0.2.2.2.2.2.2.2.2.2.2.2.2.2.2.1 b0 dX11_buys_32 ?_
  refine pg_named (fun N1 u1 => ?_)
  refine pg_iload_n (pc := 33) (i := 3) (j := 0) (x := (M.1 221 (v1 + 1).toNatClampNeg)) dX11_buys_33 rfl rfl ?_
  exact pg_iret (pc := 34) rfl dX11_buys_34 (k0 N1 u1)
theorem oX11_buys {d : Nat} {v1 : Int32} {v2 : Int32} (h : pg_At S Λ YX11_buys d 0 [(0, .ref 207), (1, .int v1), (2, .int v2)] [] M P) : pg_Ev S Λ YX11_buys d [.ref 207, .int v1, .int v2] M P := pg_Ev.of (by decide) (by first | decide | exact Nat.le_of_ble_eq_true rfl) h
theorem sX11_buy_0 {v1 : Int32} {Q0 : Int32 → pg_M → Prop} {Q1 : pg_M → Prop} {Q2 : Int32 → pg_M → Prop}
    (h0 : pg_isX11 Λ)
    (e0 : pg_Ev S Λ YX11_within d [.int v1, .int 1, .int 9] (pg_si M 207 0 0) (fun r M' => ∃ x, r = some (.int x) ∧ Q0 x M'))
    (k0 : ∀ x1 M1, Q0 x1 M1 → (x1 = 0) → P (some (.int (-1))) M1)
    (e1 : ∀ x1 M1, Q0 x1 M1 → (¬ x1 = 0) → (¬ (M1.1 221 (1 : Int32).toNatClampNeg) = 8) → pg_Ev S Λ YX11_keeps d [.ref 207] M1 (fun r M' => r = none ∧ Q1 M'))
    (e2 : ∀ x1 M1, Q0 x1 M1 → (¬ x1 = 0) → (¬ (M1.1 221 (1 : Int32).toNatClampNeg) = 8) → ∀ M2, Q1 M2 → pg_Ev S Λ YX11_buys d [.ref 207, .int 0, .int v1] M2 (fun r M' => ∃ x, r = some (.int x) ∧ Q2 x M'))
    (k1 : ∀ x1 M1, Q0 x1 M1 → (¬ x1 = 0) → (¬ (M1.1 221 (1 : Int32).toNatClampNeg) = 8) → ∀ M2, Q1 M2 → ∀ x3 M3, Q2 x3 M3 → P (some (.int x3)) M3)
    (k2 : ∀ x1 M1, Q0 x1 M1 → (¬ x1 = 0) → ((M1.1 221 (1 : Int32).toNatClampNeg) = 8) → P (some (.int (-1))) M1) :
    pg_At S Λ YX11_buy (d + 1) 0 [(0, .ref 207), (1, .int v1)] [] M P := by
  refine pg_aload_n (pc := 0) (i := 0) (j := 0) (x := 207) dX11_buy_0 rfl rfl ?_
  refine pg_iconst (pc := 1) (v := 0) dX11_buy_1 (by decide) ?_
  refine pfX11_1 (pc := 2) rfl h0 dX11_buy_2 ?_
  refine pg_iload_n (pc := 5) (i := 1) (j := 1) (x := v1) dX11_buy_5 rfl rfl ?_
  refine pg_iconst (pc := 6) (v := 1) dX11_buy_6 (by decide) ?_
  refine pg_bipush (pc := 7) (v := 9) dX11_buy_7 (by decide) ?_
  refine pg_callS (pc := 9) (As := [.int v1, .int 1, .int 9]) (st := []) okX11_within lkX11_349 rfl (Nat.le_refl _) (Nat.le_of_ble_eq_true rfl) e0 dX11_buy_9 (fun r1 M1 w1 => ?_)
  obtain ⟨x1, rfl, w1⟩ := w1
  refine pg_if_eq (pc := 12) (tgt := 26) dX11_buy_12 (by decide) (fun c0 => ?_) (fun c0 => ?_)
  · skip
    refine pg_iconst (pc := 26) (v := (-1)) dX11_buy_26 (by decide) ?_
    exact pg_iret (pc := 27) rfl dX11_buy_27 (k0 x1 M1 w1 c0)
  · skip
    refine pg_aload_n (pc := 15) (i := 0) (j := 0) (x := 207) dX11_buy_15 rfl rfl ?_
    refine gfX11_113 (pc := 16) rfl h0 dX11_buy_16 ?_
    refine pg_iconst (pc := 19) (v := 1) dX11_buy_19 (by decide) ?_
    refine pg_iald (pc := 20) h0.2.2.2.2.2.2.2.2.2.2.2.2.2.2.1 (by unfold vp_in; decide) dX11_buy_20 ?_
    refine pg_bipush (pc := 21) (v := 8) dX11_buy_21 (by decide) ?_
    refine pg_icmp_ne (pc := 23) (tgt := 28) dX11_buy_23 (by decide) (fun c1 => ?_) (fun c1 => ?_)
    · skip
      refine pg_aload_n (pc := 28) (i := 0) (j := 0) (x := 207) dX11_buy_28 rfl rfl ?_
      refine pg_callV (pc := 29) (As := []) (st := []) okX11_keeps lkX11_370 rfl h0.1 rfl (Nat.le_refl _) (Nat.le_of_ble_eq_true rfl) (e1 x1 M1 w1 c0 c1) dX11_buy_29 (fun r2 M2 w2 => ?_)
      obtain ⟨rfl, w2⟩ := w2
      refine pg_aload_n (pc := 32) (i := 0) (j := 0) (x := 207) dX11_buy_32 rfl rfl ?_
      refine pg_iconst (pc := 33) (v := 0) dX11_buy_33 (by decide) ?_
      refine pg_iload_n (pc := 34) (i := 1) (j := 1) (x := v1) dX11_buy_34 rfl rfl ?_
      refine pg_callV (pc := 35) (As := [.int 0, .int v1]) (st := []) okX11_buys lkX11_376 rfl h0.1 rfl (Nat.le_refl _) (Nat.le_of_ble_eq_true rfl) (e2 x1 M1 w1 c0 c1 M2 w2) dX11_buy_35 (fun r3 M3 w3 => ?_)
      obtain ⟨x3, rfl, w3⟩ := w3
      exact pg_iret (pc := 38) rfl dX11_buy_38 (k1 x1 M1 w1 c0 c1 M2 w2 x3 M3 w3)
    · skip
      refine pg_iconst (pc := 26) (v := (-1)) dX11_buy_26 (by decide) ?_
      exact pg_iret (pc := 27) rfl dX11_buy_27 (k2 x1 M1 w1 c0 c1)
theorem oX11_buy {d : Nat} {v1 : Int32} (h : pg_At S Λ YX11_buy d 0 [(0, .ref 207), (1, .int v1)] [] M P) : pg_Ev S Λ YX11_buy d [.ref 207, .int v1] M P := pg_Ev.of (by decide) (by first | decide | exact Nat.le_of_ble_eq_true rfl) h
theorem sX11_hour_0  {Q0 : pg_M → Prop} {Q1 : Int32 → pg_M → Prop}
    (h0 : pg_isX11 Λ)
    (e0 : pg_Ev S Λ YX11_keeps d [.ref 207] (pg_si M 207 0 0) (fun r M' => r = none ∧ Q0 M'))
    (e1 : ∀ M1, Q0 M1 → pg_Ev S Λ YX11_passes d [.ref 207, .int 0, .int 0] M1 (fun r M' => ∃ x, r = some (.int x) ∧ Q1 x M'))
    (k0 : ∀ M1, Q0 M1 → ∀ x2 M2, Q1 x2 M2 → P (some (.int x2)) M2) :
    pg_At S Λ YX11_hour (d + 1) 0 [(0, .ref 207)] [] M P := by
  refine pg_aload_n (pc := 0) (i := 0) (j := 0) (x := 207) dX11_hour_0 rfl rfl ?_
  refine pg_iconst (pc := 1) (v := 0) dX11_hour_1 (by decide) ?_
  refine pfX11_1 (pc := 2) rfl h0 dX11_hour_2 ?_
  refine pg_aload_n (pc := 5) (i := 0) (j := 0) (x := 207) dX11_hour_5 rfl rfl ?_
  refine pg_callV (pc := 6) (As := []) (st := []) okX11_keeps lkX11_370 rfl h0.1 rfl (Nat.le_refl _) (Nat.le_of_ble_eq_true rfl) e0 dX11_hour_6 (fun r1 M1 w1 => ?_)
  obtain ⟨rfl, w1⟩ := w1
  refine pg_aload_n (pc := 9) (i := 0) (j := 0) (x := 207) dX11_hour_9 rfl rfl ?_
  refine pg_iconst (pc := 10) (v := 0) dX11_hour_10 (by decide) ?_
  refine pg_iconst (pc := 11) (v := 0) dX11_hour_11 (by decide) ?_
  refine pg_callV (pc := 12) (As := [.int 0, .int 0]) (st := []) okX11_passes lkX11_379 rfl h0.1 rfl (Nat.le_refl _) (Nat.le_of_ble_eq_true rfl) (e1 M1 w1) dX11_hour_12 (fun r2 M2 w2 => ?_)
  obtain ⟨x2, rfl, w2⟩ := w2
  exact pg_iret (pc := 15) rfl dX11_hour_15 (k0 M1 w1 x2 M2 w2)
theorem oX11_hour {d : Nat}  (h : pg_At S Λ YX11_hour d 0 [(0, .ref 207)] [] M P) : pg_Ev S Λ YX11_hour d [.ref 207] M P := pg_Ev.of (by decide) (by first | decide | exact Nat.le_of_ble_eq_true rfl) h
theorem sX11_undo_0  {Q0 : pg_M → Prop}
    (h0 : pg_isX11 Λ)
    (e0 : (¬ ((pg_si M 207 0 0).1 207 23) = 0) → pg_Ev S Λ YX11_copies d [.ref 207, .int (54 * (5 + ((pg_si (pg_si M 207 0 0) 207 23 (((pg_si M 207 0 0).1 207 23) - 1)).1 207 23))), .int 0, .int 28] (pg_si (pg_si M 207 0 0) 207 23 (((pg_si M 207 0 0).1 207 23) - 1)) (fun r M' => r = none ∧ Q0 M'))
    (k0 : (¬ ((pg_si M 207 0 0).1 207 23) = 0) → ∀ M1, Q0 M1 → P (some (.int 1)) M1)
    (k1 : (((pg_si M 207 0 0).1 207 23) = 0) → P (some (.int 0)) (pg_si M 207 0 0)) :
    pg_At S Λ YX11_undo (d + 1) 0 [(0, .ref 207)] [] M P := by
  refine pg_aload_n (pc := 0) (i := 0) (j := 0) (x := 207) dX11_undo_0 rfl rfl ?_
  refine pg_iconst (pc := 1) (v := 0) dX11_undo_1 (by decide) ?_
  refine pfX11_1 (pc := 2) rfl h0 dX11_undo_2 ?_
  refine pg_aload_n (pc := 5) (i := 0) (j := 0) (x := 207) dX11_undo_5 rfl rfl ?_
  refine gfX11_285 (pc := 6) rfl h0 dX11_undo_6 ?_
  refine pg_if_ne (pc := 9) (tgt := 14) dX11_undo_9 (by decide) (fun c0 => ?_) (fun c0 => ?_)
  · skip
    refine pg_aload_n (pc := 14) (i := 0) (j := 0) (x := 207) dX11_undo_14 rfl rfl ?_
    refine pg_dup (pc := 15) dX11_undo_15 rfl ?_
    refine gfX11_285 (pc := 16) rfl h0 dX11_undo_16 ?_
    refine pg_iconst (pc := 19) (v := 1) dX11_undo_19 (by decide) ?_
    refine pg_isub (pc := 20) dX11_undo_20 ?_
    refine pfX11_285 (pc := 21) rfl h0 dX11_undo_21 ?_
    refine pg_aload_n (pc := 24) (i := 0) (j := 0) (x := 207) dX11_undo_24 rfl rfl ?_
    refine pg_bipush (pc := 25) (v := 54) dX11_undo_25 (by decide) ?_
    refine pg_iconst (pc := 27) (v := 5) dX11_undo_27 (by decide) ?_
    refine pg_aload_n (pc := 28) (i := 0) (j := 0) (x := 207) dX11_undo_28 rfl rfl ?_
    refine gfX11_285 (pc := 29) rfl h0 dX11_undo_29 ?_
    refine pg_iadd (pc := 32) dX11_undo_32 ?_
    refine pg_imul (pc := 33) dX11_undo_33 ?_
    refine pg_iconst (pc := 34) (v := 0) dX11_undo_34 (by decide) ?_
    refine pg_bipush (pc := 35) (v := 28) dX11_undo_35 (by decide) ?_
    refine pg_callV (pc := 37) (As := [.int (54 * (5 + ((pg_si (pg_si M 207 0 0) 207 23 (((pg_si M 207 0 0).1 207 23) - 1)).1 207 23))), .int 0, .int 28]) (st := []) okX11_copies lkX11_288 rfl h0.1 rfl (Nat.le_refl _) (Nat.le_of_ble_eq_true rfl) (e0 c0) dX11_undo_37 (fun r1 M1 w1 => ?_)
    obtain ⟨rfl, w1⟩ := w1
    refine pg_iconst (pc := 40) (v := 1) dX11_undo_40 (by decide) ?_
    exact pg_zret (pc := 41) rfl rfl dX11_undo_41 (k0 c0 M1 w1)
  · skip
    refine pg_iconst (pc := 12) (v := 0) dX11_undo_12 (by decide) ?_
    exact pg_zret (pc := 13) rfl rfl dX11_undo_13 (k1 c0)
theorem oX11_undo {d : Nat}  (h : pg_At S Λ YX11_undo d 0 [(0, .ref 207)] [] M P) : pg_Ev S Λ YX11_undo d [.ref 207] M P := pg_Ev.of (by decide) (by first | decide | exact Nat.le_of_ble_eq_true rfl) h
theorem sX11_does_0 {v1 : Int32} {v2 : Int32} {v3 : Int32} {Q0 : Int32 → pg_M → Prop} {Q1 : Int32 → pg_M → Prop} {Q2 : Int32 → pg_M → Prop}
    (h0 : pg_isX11 Λ)
    (k0 : (¬ v1 = 0) → (¬ v1 = 1) → (¬ v1 = 2) → (8 ≤ (M.1 221 (1135 : Int32).toNatClampNeg)) → pg_At S Λ YX11_does (d + 1) 74 [(0, .ref 207), (1, .int v1), (2, .int v2), (3, .int v3)] [.int 0] M P)
    (k1 : (¬ v1 = 0) → (¬ v1 = 1) → (¬ v1 = 2) → (¬ 8 ≤ (M.1 221 (1135 : Int32).toNatClampNeg)) → pg_At S Λ YX11_does (d + 1) 74 [(0, .ref 207), (1, .int v1), (2, .int v2), (3, .int v3)] [.int 1] M P)
    (e0 : (¬ v1 = 0) → (¬ v1 = 1) → (v1 = 2) → pg_Ev S Λ YX11_isHung d [.ref 207, .int 1134, .int v2] M (fun r M' => ∃ x, r = some (.int x) ∧ Q0 x M'))
    (k2 : (¬ v1 = 0) → (¬ v1 = 1) → (v1 = 2) → ∀ x1 M1, Q0 x1 M1 → (¬ x1 = 0) → pg_At S Λ YX11_does (d + 1) 74 [(0, .ref 207), (1, .int v1), (2, .int v2), (3, .int v3)] [.int 0] M1 P)
    (k3 : (¬ v1 = 0) → (¬ v1 = 1) → (v1 = 2) → ∀ x1 M1, Q0 x1 M1 → (x1 = 0) → pg_At S Λ YX11_does (d + 1) 74 [(0, .ref 207), (1, .int v1), (2, .int v2), (3, .int v3)] [.int 1] M1 P)
    (e1 : (¬ v1 = 0) → (v1 = 1) → pg_Ev S Λ YX11_isHung d [.ref 207, .int 1134, .int v2] M (fun r M' => ∃ x, r = some (.int x) ∧ Q1 x M'))
    (k4 : (¬ v1 = 0) → (v1 = 1) → ∀ x2 M2, Q1 x2 M2 → pg_At S Λ YX11_does (d + 1) 74 [(0, .ref 207), (1, .int v1), (2, .int v2), (3, .int v3)] [.int x2] M2 P)
    (e2 : (v1 = 0) → pg_Ev S Λ YX11_mayHang d [.ref 207, .int 1134, .int v2, .int v3] M (fun r M' => ∃ x, r = some (.int x) ∧ Q2 x M'))
    (k5 : (v1 = 0) → ∀ x3 M3, Q2 x3 M3 → pg_At S Λ YX11_does (d + 1) 74 [(0, .ref 207), (1, .int v1), (2, .int v2), (3, .int v3)] [.int x3] M3 P) :
    pg_At S Λ YX11_does (d + 1) 0 [(0, .ref 207), (1, .int v1), (2, .int v2), (3, .int v3)] [] M P := by
  refine pg_iload_n (pc := 0) (i := 1) (j := 1) (x := v1) dX11_does_0 rfl rfl ?_
  refine pg_if_ne (pc := 1) (tgt := 16) dX11_does_1 (by decide) (fun c0 => ?_) (fun c0 => ?_)
  · skip
    refine pg_iload_n (pc := 16) (i := 1) (j := 1) (x := v1) dX11_does_16 rfl rfl ?_
    refine pg_iconst (pc := 17) (v := 1) dX11_does_17 (by decide) ?_
    refine pg_icmp_ne (pc := 18) (tgt := 32) dX11_does_18 (by decide) (fun c1 => ?_) (fun c1 => ?_)
    · skip
      refine pg_iload_n (pc := 32) (i := 1) (j := 1) (x := v1) dX11_does_32 rfl rfl ?_
      refine pg_iconst (pc := 33) (v := 2) dX11_does_33 (by decide) ?_
      refine pg_icmp_ne (pc := 34) (tgt := 56) dX11_does_34 (by decide) (fun c2 => ?_) (fun c2 => ?_)
      · skip
        refine pg_aload_n (pc := 56) (i := 0) (j := 0) (x := 207) dX11_does_56 rfl rfl ?_
        refine gfX11_113 (pc := 57) rfl h0 dX11_does_57 ?_
        refine pg_sipush (pc := 60) (v := 1135) dX11_does_60 (by decide) ?_
        refine pg_iald (pc := 63) h0.2.2.2.2.2.2.2.2.2.2.2.2.2.2.1 (by unfold vp_in; decide) dX11_does_63 ?_
        refine pg_bipush (pc := 64) (v := 8) dX11_does_64 (by decide) ?_
        refine pg_icmp_ge (pc := 66) (tgt := 73) dX11_does_66 (by decide) (fun c3 => ?_) (fun c3 => ?_)
        · skip
          refine pg_iconst (pc := 73) (v := 0) dX11_does_73 (by decide) ?_
          exact k0 c0 c1 c2 c3
        · skip
          refine pg_iconst (pc := 69) (v := 1) dX11_does_69 (by decide) ?_
          refine pg_goto (pc := 70) (tgt := 74) dX11_does_70 (by decide) ?_
          exact k1 c0 c1 c2 c3
      · skip
        refine pg_aload_n (pc := 37) (i := 0) (j := 0) (x := 207) dX11_does_37 rfl rfl ?_
        refine pg_sipush (pc := 38) (v := 1134) dX11_does_38 (by decide) ?_
        refine pg_iload_n (pc := 41) (i := 2) (j := 2) (x := v2) dX11_does_41 rfl rfl ?_
        refine pg_callV (pc := 42) (As := [.int 1134, .int v2]) (st := []) okX11_isHung lkX11_304 rfl h0.1 rfl (Nat.le_refl _) (Nat.le_of_ble_eq_true rfl) (e0 c0 c1 c2) dX11_does_42 (fun r1 M1 w1 => ?_)
        obtain ⟨x1, rfl, w1⟩ := w1
        refine pg_if_ne (pc := 45) (tgt := 52) dX11_does_45 (by decide) (fun c3 => ?_) (fun c3 => ?_)
        · skip
          refine pg_iconst (pc := 52) (v := 0) dX11_does_52 (by decide) ?_
          refine pg_goto (pc := 53) (tgt := 74) dX11_does_53 (by decide) ?_
          exact k2 c0 c1 c2 x1 M1 w1 c3
        · skip
          refine pg_iconst (pc := 48) (v := 1) dX11_does_48 (by decide) ?_
          refine pg_goto (pc := 49) (tgt := 74) dX11_does_49 (by decide) ?_
          exact k3 c0 c1 c2 x1 M1 w1 c3
    · skip
      refine pg_aload_n (pc := 21) (i := 0) (j := 0) (x := 207) dX11_does_21 rfl rfl ?_
      refine pg_sipush (pc := 22) (v := 1134) dX11_does_22 (by decide) ?_
      refine pg_iload_n (pc := 25) (i := 2) (j := 2) (x := v2) dX11_does_25 rfl rfl ?_
      refine pg_callV (pc := 26) (As := [.int 1134, .int v2]) (st := []) okX11_isHung lkX11_304 rfl h0.1 rfl (Nat.le_refl _) (Nat.le_of_ble_eq_true rfl) (e1 c0 c1) dX11_does_26 (fun r2 M2 w2 => ?_)
      obtain ⟨x2, rfl, w2⟩ := w2
      refine pg_goto (pc := 29) (tgt := 74) dX11_does_29 (by decide) ?_
      exact k4 c0 c1 x2 M2 w2
  · skip
    refine pg_aload_n (pc := 4) (i := 0) (j := 0) (x := 207) dX11_does_4 rfl rfl ?_
    refine pg_sipush (pc := 5) (v := 1134) dX11_does_5 (by decide) ?_
    refine pg_iload_n (pc := 8) (i := 2) (j := 2) (x := v2) dX11_does_8 rfl rfl ?_
    refine pg_iload_n (pc := 9) (i := 3) (j := 3) (x := v3) dX11_does_9 rfl rfl ?_
    refine pg_callV (pc := 10) (As := [.int 1134, .int v2, .int v3]) (st := []) okX11_mayHang lkX11_367 rfl h0.1 rfl (Nat.le_refl _) (Nat.le_of_ble_eq_true rfl) (e2 c0) dX11_does_10 (fun r3 M3 w3 => ?_)
    obtain ⟨x3, rfl, w3⟩ := w3
    refine pg_goto (pc := 13) (tgt := 74) dX11_does_13 (by decide) ?_
    exact k5 c0 x3 M3 w3
theorem sX11_does_74 {v1 : Int32} {v2 : Int32} {v3 : Int32} {s0 : Int32} {Q0 : Int32 → pg_M → Prop} {Q1 : Int32 → pg_M → Prop} {Q2 : Int32 → pg_M → Prop} {Q3 : Int32 → pg_M → Prop} {Q4 : Int32 → pg_M → Prop} {Q5 : Int32 → pg_M → Prop}
    (h0 : pg_isX11 Λ)
    (k0 : (s0 = 0) → (s0 = 0) → (s0 = 0) → P (some (.int s0)) M)
    (b0 : (s0 = 0) → (s0 = 0) → (s0 = 0) → narrow .boolean (.int s0) = .int s0)
    (e0 : (s0 = 0) → (s0 = 0) → (¬ s0 = 0) → pg_Ev S Λ YX11_buys d [.ref 207, .int 1134, .int v2] M (fun r M' => ∃ x, r = some (.int x) ∧ Q0 x M'))
    (k1 : (s0 = 0) → (s0 = 0) → (¬ s0 = 0) → ∀ x1 M1, Q0 x1 M1 → P (some (.int s0)) M1)
    (b1 : (s0 = 0) → (s0 = 0) → (¬ s0 = 0) → ∀ x1 M1, Q0 x1 M1 → narrow .boolean (.int s0) = .int s0)
    (k2 : (s0 = 0) → (¬ s0 = 0) → (¬ v1 = 2) → (s0 = 0) → P (some (.int s0)) M)
    (b2 : (s0 = 0) → (¬ s0 = 0) → (¬ v1 = 2) → (s0 = 0) → narrow .boolean (.int s0) = .int s0)
    (e1 : (s0 = 0) → (¬ s0 = 0) → (¬ v1 = 2) → (¬ s0 = 0) → pg_Ev S Λ YX11_buys d [.ref 207, .int 1134, .int v2] M (fun r M' => ∃ x, r = some (.int x) ∧ Q1 x M'))
    (k3 : (s0 = 0) → (¬ s0 = 0) → (¬ v1 = 2) → (¬ s0 = 0) → ∀ x2 M2, Q1 x2 M2 → P (some (.int s0)) M2)
    (b3 : (s0 = 0) → (¬ s0 = 0) → (¬ v1 = 2) → (¬ s0 = 0) → ∀ x2 M2, Q1 x2 M2 → narrow .boolean (.int s0) = .int s0)
    (e2 : (s0 = 0) → (¬ s0 = 0) → (v1 = 2) → pg_Ev S Λ YX11_washes d [.ref 207, .int 1134, .int v2] M (fun r M' => ∃ x, r = some (.int x) ∧ Q2 x M'))
    (k4 : (s0 = 0) → (¬ s0 = 0) → (v1 = 2) → ∀ x3 M3, Q2 x3 M3 → P (some (.int s0)) M3)
    (b4 : (s0 = 0) → (¬ s0 = 0) → (v1 = 2) → ∀ x3 M3, Q2 x3 M3 → narrow .boolean (.int s0) = .int s0)
    (k5 : (¬ s0 = 0) → (2 ≤ v1) → (s0 = 0) → (s0 = 0) → P (some (.int s0)) M)
    (b5 : (¬ s0 = 0) → (2 ≤ v1) → (s0 = 0) → (s0 = 0) → narrow .boolean (.int s0) = .int s0)
    (e3 : (¬ s0 = 0) → (2 ≤ v1) → (s0 = 0) → (¬ s0 = 0) → pg_Ev S Λ YX11_buys d [.ref 207, .int 1134, .int v2] M (fun r M' => ∃ x, r = some (.int x) ∧ Q3 x M'))
    (k6 : (¬ s0 = 0) → (2 ≤ v1) → (s0 = 0) → (¬ s0 = 0) → ∀ x4 M4, Q3 x4 M4 → P (some (.int s0)) M4)
    (b6 : (¬ s0 = 0) → (2 ≤ v1) → (s0 = 0) → (¬ s0 = 0) → ∀ x4 M4, Q3 x4 M4 → narrow .boolean (.int s0) = .int s0)
    (k7 : (¬ s0 = 0) → (2 ≤ v1) → (¬ s0 = 0) → (¬ v1 = 2) → (s0 = 0) → P (some (.int s0)) M)
    (b7 : (¬ s0 = 0) → (2 ≤ v1) → (¬ s0 = 0) → (¬ v1 = 2) → (s0 = 0) → narrow .boolean (.int s0) = .int s0)
    (e4 : (¬ s0 = 0) → (2 ≤ v1) → (¬ s0 = 0) → (¬ v1 = 2) → (¬ s0 = 0) → pg_Ev S Λ YX11_buys d [.ref 207, .int 1134, .int v2] M (fun r M' => ∃ x, r = some (.int x) ∧ Q4 x M'))
    (k8 : (¬ s0 = 0) → (2 ≤ v1) → (¬ s0 = 0) → (¬ v1 = 2) → (¬ s0 = 0) → ∀ x5 M5, Q4 x5 M5 → P (some (.int s0)) M5)
    (b8 : (¬ s0 = 0) → (2 ≤ v1) → (¬ s0 = 0) → (¬ v1 = 2) → (¬ s0 = 0) → ∀ x5 M5, Q4 x5 M5 → narrow .boolean (.int s0) = .int s0)
    (e5 : (¬ s0 = 0) → (2 ≤ v1) → (¬ s0 = 0) → (v1 = 2) → pg_Ev S Λ YX11_washes d [.ref 207, .int 1134, .int v2] M (fun r M' => ∃ x, r = some (.int x) ∧ Q5 x M'))
    (k9 : (¬ s0 = 0) → (2 ≤ v1) → (¬ s0 = 0) → (v1 = 2) → ∀ x6 M6, Q5 x6 M6 → P (some (.int s0)) M6)
    (b9 : (¬ s0 = 0) → (2 ≤ v1) → (¬ s0 = 0) → (v1 = 2) → ∀ x6 M6, Q5 x6 M6 → narrow .boolean (.int s0) = .int s0)
    (b10 : (¬ s0 = 0) → (¬ 2 ≤ v1) → (¬ v1 = 0) → vp_in (1148 + v2) 1242)
    (k10 : (¬ s0 = 0) → (¬ 2 ≤ v1) → (¬ v1 = 0) → P (some (.int s0)) (pg_si M 221 (1148 + v2).toNatClampNeg 0))
    (b11 : (¬ s0 = 0) → (¬ 2 ≤ v1) → (¬ v1 = 0) → narrow .boolean (.int s0) = .int s0)
    (b12 : (¬ s0 = 0) → (¬ 2 ≤ v1) → (v1 = 0) → vp_in (1148 + v2) 1242)
    (k11 : (¬ s0 = 0) → (¬ 2 ≤ v1) → (v1 = 0) → P (some (.int s0)) (pg_si M 221 (1148 + v2).toNatClampNeg v3))
    (b13 : (¬ s0 = 0) → (¬ 2 ≤ v1) → (v1 = 0) → narrow .boolean (.int s0) = .int s0) :
    pg_At S Λ YX11_does (d + 1) 74 [(0, .ref 207), (1, .int v1), (2, .int v2), (3, .int v3)] [.int s0] M P := by
  refine pg_istore (pc := 74) (i := 4) (ls' := [(4, .int s0), (0, .ref 207), (1, .int v1), (2, .int v2), (3, .int v3)]) dX11_does_74 (by decide) rfl ?_
  refine pg_iload (pc := 76) (i := 4) (j := 0) (x := s0) dX11_does_76 rfl ?_
  refine pg_if_eq (pc := 78) (tgt := 108) dX11_does_78 (by decide) (fun c0 => ?_) (fun c0 => ?_)
  · skip
    refine pg_iload (pc := 108) (i := 4) (j := 0) (x := s0) dX11_does_108 rfl ?_
    refine pg_if_eq (pc := 110) (tgt := 130) dX11_does_110 (by decide) (fun c1 => ?_) (fun c1 => ?_)
    · skip
      refine pg_iload (pc := 130) (i := 4) (j := 0) (x := s0) dX11_does_130 rfl ?_
      refine pg_if_eq (pc := 132) (tgt := 144) dX11_does_132 (by decide) (fun c2 => ?_) (fun c2 => ?_)
      · skip
        refine pg_iload (pc := 144) (i := 4) (j := 0) (x := s0) dX11_does_144 rfl ?_
        exact pg_zret (pc := 146) rfl (b0 c0 c1 c2) dX11_does_146 (k0 c0 c1 c2)
      · skip
        refine pg_aload_n (pc := 135) (i := 0) (j := 1) (x := 207) dX11_does_135 rfl rfl ?_
        refine pg_sipush (pc := 136) (v := 1134) dX11_does_136 (by decide) ?_
        refine pg_iload_n (pc := 139) (i := 2) (j := 3) (x := v2) dX11_does_139 rfl rfl ?_
        refine pg_callV (pc := 140) (As := [.int 1134, .int v2]) (st := []) okX11_buys lkX11_376 rfl h0.1 rfl (Nat.le_refl _) (Nat.le_of_ble_eq_true rfl) (e0 c0 c1 c2) dX11_does_140 (fun r1 M1 w1 => ?_)
        obtain ⟨x1, rfl, w1⟩ := w1
        refine pg_pop (pc := 143) dX11_does_143 rfl ?_
        refine pg_iload (pc := 144) (i := 4) (j := 0) (x := s0) dX11_does_144 rfl ?_
        exact pg_zret (pc := 146) rfl (b1 c0 c1 c2 x1 M1 w1) dX11_does_146 (k1 c0 c1 c2 x1 M1 w1)
    · skip
      refine pg_iload_n (pc := 113) (i := 1) (j := 2) (x := v1) dX11_does_113 rfl rfl ?_
      refine pg_iconst (pc := 114) (v := 2) dX11_does_114 (by decide) ?_
      refine pg_icmp_ne (pc := 115) (tgt := 130) dX11_does_115 (by decide) (fun c2 => ?_) (fun c2 => ?_)
      · skip
        refine pg_iload (pc := 130) (i := 4) (j := 0) (x := s0) dX11_does_130 rfl ?_
        refine pg_if_eq (pc := 132) (tgt := 144) dX11_does_132 (by decide) (fun c3 => ?_) (fun c3 => ?_)
        · skip
          refine pg_iload (pc := 144) (i := 4) (j := 0) (x := s0) dX11_does_144 rfl ?_
          exact pg_zret (pc := 146) rfl (b2 c0 c1 c2 c3) dX11_does_146 (k2 c0 c1 c2 c3)
        · skip
          refine pg_aload_n (pc := 135) (i := 0) (j := 1) (x := 207) dX11_does_135 rfl rfl ?_
          refine pg_sipush (pc := 136) (v := 1134) dX11_does_136 (by decide) ?_
          refine pg_iload_n (pc := 139) (i := 2) (j := 3) (x := v2) dX11_does_139 rfl rfl ?_
          refine pg_callV (pc := 140) (As := [.int 1134, .int v2]) (st := []) okX11_buys lkX11_376 rfl h0.1 rfl (Nat.le_refl _) (Nat.le_of_ble_eq_true rfl) (e1 c0 c1 c2 c3) dX11_does_140 (fun r2 M2 w2 => ?_)
          obtain ⟨x2, rfl, w2⟩ := w2
          refine pg_pop (pc := 143) dX11_does_143 rfl ?_
          refine pg_iload (pc := 144) (i := 4) (j := 0) (x := s0) dX11_does_144 rfl ?_
          exact pg_zret (pc := 146) rfl (b3 c0 c1 c2 c3 x2 M2 w2) dX11_does_146 (k3 c0 c1 c2 c3 x2 M2 w2)
      · skip
        refine pg_aload_n (pc := 118) (i := 0) (j := 1) (x := 207) dX11_does_118 rfl rfl ?_
        refine pg_sipush (pc := 119) (v := 1134) dX11_does_119 (by decide) ?_
        refine pg_iload_n (pc := 122) (i := 2) (j := 3) (x := v2) dX11_does_122 rfl rfl ?_
        refine pg_callV (pc := 123) (As := [.int 1134, .int v2]) (st := []) okX11_washes lkX11_373 rfl h0.1 rfl (Nat.le_refl _) (Nat.le_of_ble_eq_true rfl) (e2 c0 c1 c2) dX11_does_123 (fun r3 M3 w3 => ?_)
        obtain ⟨x3, rfl, w3⟩ := w3
        refine pg_pop (pc := 126) dX11_does_126 rfl ?_
        refine pg_goto (pc := 127) (tgt := 144) dX11_does_127 (by decide) ?_
        refine pg_iload (pc := 144) (i := 4) (j := 0) (x := s0) dX11_does_144 rfl ?_
        exact pg_zret (pc := 146) rfl (b4 c0 c1 c2 x3 M3 w3) dX11_does_146 (k4 c0 c1 c2 x3 M3 w3)
  · skip
    refine pg_iload_n (pc := 81) (i := 1) (j := 2) (x := v1) dX11_does_81 rfl rfl ?_
    refine pg_iconst (pc := 82) (v := 2) dX11_does_82 (by decide) ?_
    refine pg_icmp_ge (pc := 83) (tgt := 108) dX11_does_83 (by decide) (fun c1 => ?_) (fun c1 => ?_)
    · skip
      refine pg_iload (pc := 108) (i := 4) (j := 0) (x := s0) dX11_does_108 rfl ?_
      refine pg_if_eq (pc := 110) (tgt := 130) dX11_does_110 (by decide) (fun c2 => ?_) (fun c2 => ?_)
      · skip
        refine pg_iload (pc := 130) (i := 4) (j := 0) (x := s0) dX11_does_130 rfl ?_
        refine pg_if_eq (pc := 132) (tgt := 144) dX11_does_132 (by decide) (fun c3 => ?_) (fun c3 => ?_)
        · skip
          refine pg_iload (pc := 144) (i := 4) (j := 0) (x := s0) dX11_does_144 rfl ?_
          exact pg_zret (pc := 146) rfl (b5 c0 c1 c2 c3) dX11_does_146 (k5 c0 c1 c2 c3)
        · skip
          refine pg_aload_n (pc := 135) (i := 0) (j := 1) (x := 207) dX11_does_135 rfl rfl ?_
          refine pg_sipush (pc := 136) (v := 1134) dX11_does_136 (by decide) ?_
          refine pg_iload_n (pc := 139) (i := 2) (j := 3) (x := v2) dX11_does_139 rfl rfl ?_
          refine pg_callV (pc := 140) (As := [.int 1134, .int v2]) (st := []) okX11_buys lkX11_376 rfl h0.1 rfl (Nat.le_refl _) (Nat.le_of_ble_eq_true rfl) (e3 c0 c1 c2 c3) dX11_does_140 (fun r4 M4 w4 => ?_)
          obtain ⟨x4, rfl, w4⟩ := w4
          refine pg_pop (pc := 143) dX11_does_143 rfl ?_
          refine pg_iload (pc := 144) (i := 4) (j := 0) (x := s0) dX11_does_144 rfl ?_
          exact pg_zret (pc := 146) rfl (b6 c0 c1 c2 c3 x4 M4 w4) dX11_does_146 (k6 c0 c1 c2 c3 x4 M4 w4)
      · skip
        refine pg_iload_n (pc := 113) (i := 1) (j := 2) (x := v1) dX11_does_113 rfl rfl ?_
        refine pg_iconst (pc := 114) (v := 2) dX11_does_114 (by decide) ?_
        refine pg_icmp_ne (pc := 115) (tgt := 130) dX11_does_115 (by decide) (fun c3 => ?_) (fun c3 => ?_)
        · skip
          refine pg_iload (pc := 130) (i := 4) (j := 0) (x := s0) dX11_does_130 rfl ?_
          refine pg_if_eq (pc := 132) (tgt := 144) dX11_does_132 (by decide) (fun c4 => ?_) (fun c4 => ?_)
          · skip
            refine pg_iload (pc := 144) (i := 4) (j := 0) (x := s0) dX11_does_144 rfl ?_
            exact pg_zret (pc := 146) rfl (b7 c0 c1 c2 c3 c4) dX11_does_146 (k7 c0 c1 c2 c3 c4)
          · skip
            refine pg_aload_n (pc := 135) (i := 0) (j := 1) (x := 207) dX11_does_135 rfl rfl ?_
            refine pg_sipush (pc := 136) (v := 1134) dX11_does_136 (by decide) ?_
            refine pg_iload_n (pc := 139) (i := 2) (j := 3) (x := v2) dX11_does_139 rfl rfl ?_
            refine pg_callV (pc := 140) (As := [.int 1134, .int v2]) (st := []) okX11_buys lkX11_376 rfl h0.1 rfl (Nat.le_refl _) (Nat.le_of_ble_eq_true rfl) (e4 c0 c1 c2 c3 c4) dX11_does_140 (fun r5 M5 w5 => ?_)
            obtain ⟨x5, rfl, w5⟩ := w5
            refine pg_pop (pc := 143) dX11_does_143 rfl ?_
            refine pg_iload (pc := 144) (i := 4) (j := 0) (x := s0) dX11_does_144 rfl ?_
            exact pg_zret (pc := 146) rfl (b8 c0 c1 c2 c3 c4 x5 M5 w5) dX11_does_146 (k8 c0 c1 c2 c3 c4 x5 M5 w5)
        · skip
          refine pg_aload_n (pc := 118) (i := 0) (j := 1) (x := 207) dX11_does_118 rfl rfl ?_
          refine pg_sipush (pc := 119) (v := 1134) dX11_does_119 (by decide) ?_
          refine pg_iload_n (pc := 122) (i := 2) (j := 3) (x := v2) dX11_does_122 rfl rfl ?_
          refine pg_callV (pc := 123) (As := [.int 1134, .int v2]) (st := []) okX11_washes lkX11_373 rfl h0.1 rfl (Nat.le_refl _) (Nat.le_of_ble_eq_true rfl) (e5 c0 c1 c2 c3) dX11_does_123 (fun r6 M6 w6 => ?_)
          obtain ⟨x6, rfl, w6⟩ := w6
          refine pg_pop (pc := 126) dX11_does_126 rfl ?_
          refine pg_goto (pc := 127) (tgt := 144) dX11_does_127 (by decide) ?_
          refine pg_iload (pc := 144) (i := 4) (j := 0) (x := s0) dX11_does_144 rfl ?_
          exact pg_zret (pc := 146) rfl (b9 c0 c1 c2 c3 x6 M6 w6) dX11_does_146 (k9 c0 c1 c2 c3 x6 M6 w6)
    · skip
      refine pg_aload_n (pc := 86) (i := 0) (j := 1) (x := 207) dX11_does_86 rfl rfl ?_
      refine gfX11_113 (pc := 87) rfl h0 dX11_does_87 ?_
      refine pg_sipush (pc := 90) (v := 1148) dX11_does_90 (by decide) ?_
      refine pg_iload_n (pc := 93) (i := 2) (j := 3) (x := v2) dX11_does_93 rfl rfl ?_
      refine pg_iadd (pc := 94) dX11_does_94 ?_
      refine pg_iload_n (pc := 95) (i := 1) (j := 2) (x := v1) dX11_does_95 rfl rfl ?_
      refine pg_if_ne (pc := 96) (tgt := 103) dX11_does_96 (by decide) (fun c2 => ?_) (fun c2 => ?_)
      · skip
        refine pg_iconst (pc := 103) (v := 0) dX11_does_103 (by decide) ?_
        refine pg_iast (pc := 104) h0.2.2.2.2.2.2.2.2.2.2.2.2.2.2.1 (b10 c0 c1 c2) dX11_does_104 ?_
        refine pg_goto (pc := 105) (tgt := 144) dX11_does_105 (by decide) ?_
        refine pg_iload (pc := 144) (i := 4) (j := 0) (x := s0) dX11_does_144 rfl ?_
        exact pg_zret (pc := 146) rfl (b11 c0 c1 c2) dX11_does_146 (k10 c0 c1 c2)
      · skip
        refine pg_iload_n (pc := 99) (i := 3) (j := 4) (x := v3) dX11_does_99 rfl rfl ?_
        refine pg_goto (pc := 100) (tgt := 104) dX11_does_100 (by decide) ?_
        refine pg_iast (pc := 104) h0.2.2.2.2.2.2.2.2.2.2.2.2.2.2.1 (b12 c0 c1 c2) dX11_does_104 ?_
        refine pg_goto (pc := 105) (tgt := 144) dX11_does_105 (by decide) ?_
        refine pg_iload (pc := 144) (i := 4) (j := 0) (x := s0) dX11_does_144 rfl ?_
        exact pg_zret (pc := 146) rfl (b13 c0 c1 c2) dX11_does_146 (k11 c0 c1 c2)
theorem oX11_does {d : Nat} {v1 : Int32} {v2 : Int32} {v3 : Int32} (h : pg_At S Λ YX11_does d 0 [(0, .ref 207), (1, .int v1), (2, .int v2), (3, .int v3)] [] M P) : pg_Ev S Λ YX11_does d [.ref 207, .int v1, .int v2, .int v3] M P := pg_Ev.of (by decide) (by first | decide | exact Nat.le_of_ble_eq_true rfl) h
theorem sX11_judged_0 {v1 : Int32} {Q0 : Int32 → pg_M → Prop} {Q1 : pg_M → Prop}
    (h0 : pg_isX11 Λ)
    (e0 : pg_Ev S Λ YX11_within d [.int v1, .int 0, .int 2] (pg_si M 207 0 0) (fun r M' => ∃ x, r = some (.int x) ∧ Q0 x M'))
    (e1 : ∀ x1 M1, Q0 x1 M1 → (¬ x1 = 0) → pg_Ev S Λ YX11_starts d [.ref 207, .int 1134] M1 (fun r M' => r = none ∧ Q1 M'))
    (k0 : ∀ x1 M1, Q0 x1 M1 → (¬ x1 = 0) → ∀ M2, Q1 M2 → pg_At S Λ YX11_judged (d + 1) 31 [(0, .ref 207), (1, .int v1), (2, .int (-1)), (3, .int (-1)), (4, .int 0)] [] M2 P)
    (k1 : ∀ x1 M1, Q0 x1 M1 → (x1 = 0) → P (some (.int (-2))) M1) :
    pg_At S Λ YX11_judged (d + 1) 0 [(0, .ref 207), (1, .int v1)] [] M P := by
  refine pg_aload_n (pc := 0) (i := 0) (j := 0) (x := 207) dX11_judged_0 rfl rfl ?_
  refine pg_iconst (pc := 1) (v := 0) dX11_judged_1 (by decide) ?_
  refine pfX11_1 (pc := 2) rfl h0 dX11_judged_2 ?_
  refine pg_iload_n (pc := 5) (i := 1) (j := 1) (x := v1) dX11_judged_5 rfl rfl ?_
  refine pg_iconst (pc := 6) (v := 0) dX11_judged_6 (by decide) ?_
  refine pg_iconst (pc := 7) (v := 2) dX11_judged_7 (by decide) ?_
  refine pg_callS (pc := 8) (As := [.int v1, .int 0, .int 2]) (st := []) okX11_within lkX11_349 rfl (Nat.le_refl _) (Nat.le_of_ble_eq_true rfl) e0 dX11_judged_8 (fun r1 M1 w1 => ?_)
  obtain ⟨x1, rfl, w1⟩ := w1
  refine pg_if_ne (pc := 11) (tgt := 17) dX11_judged_11 (by decide) (fun c0 => ?_) (fun c0 => ?_)
  · skip
    refine pg_aload_n (pc := 17) (i := 0) (j := 0) (x := 207) dX11_judged_17 rfl rfl ?_
    refine pg_sipush (pc := 18) (v := 1134) dX11_judged_18 (by decide) ?_
    refine pg_callV (pc := 21) (As := [.int 1134]) (st := []) okX11_starts lkX11_282 rfl h0.1 rfl (Nat.le_refl _) (Nat.le_of_ble_eq_true rfl) (e1 x1 M1 w1 c0) dX11_judged_21 (fun r2 M2 w2 => ?_)
    obtain ⟨rfl, w2⟩ := w2
    refine pg_iconst (pc := 24) (v := (-1)) dX11_judged_24 (by decide) ?_
    refine pg_istore_n (pc := 25) (i := 2) (ls' := [(2, .int (-1)), (0, .ref 207), (1, .int v1)]) dX11_judged_25 rfl (by decide) rfl ?_
    refine pg_iconst (pc := 26) (v := (-1)) dX11_judged_26 (by decide) ?_
    refine pg_istore_n (pc := 27) (i := 3) (ls' := [(3, .int (-1)), (2, .int (-1)), (0, .ref 207), (1, .int v1)]) dX11_judged_27 rfl (by decide) rfl ?_
    refine pg_iconst (pc := 28) (v := 0) dX11_judged_28 (by decide) ?_
    refine pg_istore (pc := 29) (i := 4) (ls' := [(4, .int 0), (3, .int (-1)), (2, .int (-1)), (0, .ref 207), (1, .int v1)]) dX11_judged_29 (by decide) rfl ?_
    refine pg_drop (ks := [3, 4, 2, 1, 0]) (ls' := [(0, .ref 207), (1, .int v1), (2, .int (-1)), (3, .int (-1)), (4, .int 0)]) rfl ?_
    exact k0 x1 M1 w1 c0 M2 w2
  · skip
    refine pg_bipush (pc := 14) (v := (-2)) dX11_judged_14 (by decide) ?_
    exact pg_iret (pc := 16) rfl dX11_judged_16 (k1 x1 M1 w1 c0)
theorem sX11_judged_31 {v1 : Int32} {v2 : Int32} {v3 : Int32} {v4 : Int32} {Q0 : Int32 → pg_M → Prop} {Q1 : Int32 → pg_M → Prop} {Q2 : Int32 → pg_M → Prop} {Q3 : Int32 → pg_M → Prop}
    (h0 : pg_isX11 Λ)
    (e0 : ((M.1 218 (0 : Int32).toNatClampNeg) ≤ v4) → (¬ v1 = 0) → (¬ v1 = 1) → pg_Ev S Λ YX11_lawsOf d [.ref 207, .int 1134] M (fun r M' => ∃ x, r = some (.int x) ∧ Q0 x M'))
    (e1 : ((M.1 218 (0 : Int32).toNatClampNeg) ≤ v4) → (¬ v1 = 0) → (¬ v1 = 1) → ∀ x1 M1, Q0 x1 M1 → pg_Ev S Λ YX11_worthOf d [.ref 207, .int x1] M1 (fun r M' => ∃ x, r = some (.int x) ∧ Q1 x M'))
    (k0 : ((M.1 218 (0 : Int32).toNatClampNeg) ≤ v4) → (¬ v1 = 0) → (¬ v1 = 1) → ∀ x1 M1, Q0 x1 M1 → ∀ x2 M2, Q1 x2 M2 → P (some (.int x2)) M2)
    (k1 : ((M.1 218 (0 : Int32).toNatClampNeg) ≤ v4) → (¬ v1 = 0) → (v1 = 1) → P (some (.int v3)) M)
    (k2 : ((M.1 218 (0 : Int32).toNatClampNeg) ≤ v4) → (v1 = 0) → P (some (.int v2)) M)
    (b0 : (¬ (M.1 218 (0 : Int32).toNatClampNeg) ≤ v4) → vp_in (1 + (3 * v4)) 200)
    (b1 : (¬ (M.1 218 (0 : Int32).toNatClampNeg) ≤ v4) → (¬ (M.1 218 (1 + (3 * v4)).toNatClampNeg) = 4) → vp_in (2 + (3 * v4)) 200)
    (b2 : (¬ (M.1 218 (0 : Int32).toNatClampNeg) ≤ v4) → (¬ (M.1 218 (1 + (3 * v4)).toNatClampNeg) = 4) → vp_in (3 + (3 * v4)) 200)
    (e2 : (¬ (M.1 218 (0 : Int32).toNatClampNeg) ≤ v4) → (¬ (M.1 218 (1 + (3 * v4)).toNatClampNeg) = 4) → pg_Ev S Λ YX11_does d [.ref 207, .int (M.1 218 (1 + (3 * v4)).toNatClampNeg), .int (M.1 218 (2 + (3 * v4)).toNatClampNeg), .int (M.1 218 (3 + (3 * v4)).toNatClampNeg)] M (fun r M' => ∃ x, r = some (.int x) ∧ Q2 x M'))
    (k3 : (¬ (M.1 218 (0 : Int32).toNatClampNeg) ≤ v4) → (¬ (M.1 218 (1 + (3 * v4)).toNatClampNeg) = 4) → ∀ x3 M3, Q2 x3 M3 → (¬ x3 = 0) → pg_At S Λ YX11_judged (d + 1) 31 [(0, .ref 207), (1, .int v1), (2, .int v2), (3, .int v3), (4, .int (v4 + 1))] [] M3 P)
    (k4 : (¬ (M.1 218 (0 : Int32).toNatClampNeg) ≤ v4) → (¬ (M.1 218 (1 + (3 * v4)).toNatClampNeg) = 4) → ∀ x3 M3, Q2 x3 M3 → (x3 = 0) → (0 ≤ v2) → pg_At S Λ YX11_judged (d + 1) 31 [(0, .ref 207), (1, .int v1), (2, .int v2), (3, .int v3), (4, .int (v4 + 1))] [] M3 P)
    (k5 : (¬ (M.1 218 (0 : Int32).toNatClampNeg) ≤ v4) → (¬ (M.1 218 (1 + (3 * v4)).toNatClampNeg) = 4) → ∀ x3 M3, Q2 x3 M3 → (x3 = 0) → (¬ 0 ≤ v2) → pg_At S Λ YX11_judged (d + 1) 31 [(0, .ref 207), (1, .int v1), (2, .int v4), (3, .int v3), (4, .int (v4 + 1))] [] M3 P)
    (e3 : (¬ (M.1 218 (0 : Int32).toNatClampNeg) ≤ v4) → ((M.1 218 (1 + (3 * v4)).toNatClampNeg) = 4) → pg_Ev S Λ YX11_passes d [.ref 207, .int 1134, .int 0] M (fun r M' => ∃ x, r = some (.int x) ∧ Q3 x M'))
    (k6 : (¬ (M.1 218 (0 : Int32).toNatClampNeg) ≤ v4) → ((M.1 218 (1 + (3 * v4)).toNatClampNeg) = 4) → ∀ x4 M4, Q3 x4 M4 → (x4 ≤ 0) → pg_At S Λ YX11_judged (d + 1) 31 [(0, .ref 207), (1, .int v1), (2, .int v2), (3, .int v3), (4, .int (v4 + 1))] [] M4 P)
    (k7 : (¬ (M.1 218 (0 : Int32).toNatClampNeg) ≤ v4) → ((M.1 218 (1 + (3 * v4)).toNatClampNeg) = 4) → ∀ x4 M4, Q3 x4 M4 → (¬ x4 ≤ 0) → (0 ≤ v3) → pg_At S Λ YX11_judged (d + 1) 31 [(0, .ref 207), (1, .int v1), (2, .int v2), (3, .int v3), (4, .int (v4 + 1))] [] M4 P)
    (k8 : (¬ (M.1 218 (0 : Int32).toNatClampNeg) ≤ v4) → ((M.1 218 (1 + (3 * v4)).toNatClampNeg) = 4) → ∀ x4 M4, Q3 x4 M4 → (¬ x4 ≤ 0) → (¬ 0 ≤ v3) → pg_At S Λ YX11_judged (d + 1) 31 [(0, .ref 207), (1, .int v1), (2, .int v2), (3, .int v4), (4, .int (v4 + 1))] [] M4 P) :
    pg_At S Λ YX11_judged (d + 1) 31 [(0, .ref 207), (1, .int v1), (2, .int v2), (3, .int v3), (4, .int v4)] [] M P := by
  refine pg_iload (pc := 31) (i := 4) (j := 4) (x := v4) dX11_judged_31 rfl ?_
  refine pg_aload_n (pc := 33) (i := 0) (j := 0) (x := 207) dX11_judged_33 rfl rfl ?_
  refine gfX11_104 (pc := 34) rfl h0 dX11_judged_34 ?_
  refine pg_iconst (pc := 37) (v := 0) dX11_judged_37 (by decide) ?_
  refine pg_iald (pc := 38) h0.2.2.2.2.2.2.2.2.2.2.2.1 (by unfold vp_in; decide) dX11_judged_38 ?_
  refine pg_icmp_ge (pc := 39) (tgt := 142) dX11_judged_39 (by decide) (fun c0 => ?_) (fun c0 => ?_)
  · skip
    refine pg_iload_n (pc := 142) (i := 1) (j := 1) (x := v1) dX11_judged_142 rfl rfl ?_
    refine pg_if_ne (pc := 143) (tgt := 150) dX11_judged_143 (by decide) (fun c1 => ?_) (fun c1 => ?_)
    · skip
      refine pg_iload_n (pc := 150) (i := 1) (j := 1) (x := v1) dX11_judged_150 rfl rfl ?_
      refine pg_iconst (pc := 151) (v := 1) dX11_judged_151 (by decide) ?_
      refine pg_icmp_ne (pc := 152) (tgt := 159) dX11_judged_152 (by decide) (fun c2 => ?_) (fun c2 => ?_)
      · skip
        refine pg_aload_n (pc := 159) (i := 0) (j := 0) (x := 207) dX11_judged_159 rfl rfl ?_
        refine pg_aload_n (pc := 160) (i := 0) (j := 0) (x := 207) dX11_judged_160 rfl rfl ?_
        refine pg_sipush (pc := 161) (v := 1134) dX11_judged_161 (by decide) ?_
        refine pg_callV (pc := 164) (As := [.int 1134]) (st := [.ref 207]) okX11_lawsOf lkX11_358 rfl h0.1 rfl (Nat.le_refl _) (Nat.le_of_ble_eq_true rfl) (e0 c0 c1 c2) dX11_judged_164 (fun r1 M1 w1 => ?_)
        obtain ⟨x1, rfl, w1⟩ := w1
        refine pg_callV (pc := 167) (As := [.int x1]) (st := []) okX11_worthOf lkX11_385 rfl h0.1 rfl (Nat.le_refl _) (Nat.le_of_ble_eq_true rfl) (e1 c0 c1 c2 x1 M1 w1) dX11_judged_167 (fun r2 M2 w2 => ?_)
        obtain ⟨x2, rfl, w2⟩ := w2
        exact pg_iret (pc := 170) rfl dX11_judged_170 (k0 c0 c1 c2 x1 M1 w1 x2 M2 w2)
      · skip
        refine pg_iload_n (pc := 155) (i := 3) (j := 3) (x := v3) dX11_judged_155 rfl rfl ?_
        refine pg_goto (pc := 156) (tgt := 170) dX11_judged_156 (by decide) ?_
        exact pg_iret (pc := 170) rfl dX11_judged_170 (k1 c0 c1 c2)
    · skip
      refine pg_iload_n (pc := 146) (i := 2) (j := 2) (x := v2) dX11_judged_146 rfl rfl ?_
      refine pg_goto (pc := 147) (tgt := 170) dX11_judged_147 (by decide) ?_
      exact pg_iret (pc := 170) rfl dX11_judged_170 (k2 c0 c1)
  · skip
    refine pg_aload_n (pc := 42) (i := 0) (j := 0) (x := 207) dX11_judged_42 rfl rfl ?_
    refine gfX11_104 (pc := 43) rfl h0 dX11_judged_43 ?_
    refine pg_iconst (pc := 46) (v := 1) dX11_judged_46 (by decide) ?_
    refine pg_iconst (pc := 47) (v := 3) dX11_judged_47 (by decide) ?_
    refine pg_iload (pc := 48) (i := 4) (j := 4) (x := v4) dX11_judged_48 rfl ?_
    refine pg_imul (pc := 50) dX11_judged_50 ?_
    refine pg_iadd (pc := 51) dX11_judged_51 ?_
    refine pg_iald (pc := 52) h0.2.2.2.2.2.2.2.2.2.2.2.1 (b0 c0) dX11_judged_52 ?_
    refine pg_istore (pc := 53) (i := 5) (ls' := [(5, .int (M.1 218 (1 + (3 * v4)).toNatClampNeg)), (0, .ref 207), (1, .int v1), (2, .int v2), (3, .int v3), (4, .int v4)]) dX11_judged_53 (by decide) rfl ?_
    refine pg_iload (pc := 55) (i := 5) (j := 0) (x := (M.1 218 (1 + (3 * v4)).toNatClampNeg)) dX11_judged_55 rfl ?_
    refine pg_iconst (pc := 57) (v := 4) dX11_judged_57 (by decide) ?_
    refine pg_icmp_ne (pc := 58) (tgt := 90) dX11_judged_58 (by decide) (fun c1 => ?_) (fun c1 => ?_)
    · skip
      refine pg_aload_n (pc := 90) (i := 0) (j := 1) (x := 207) dX11_judged_90 rfl rfl ?_
      refine pg_iload (pc := 91) (i := 5) (j := 0) (x := (M.1 218 (1 + (3 * v4)).toNatClampNeg)) dX11_judged_91 rfl ?_
      refine pg_aload_n (pc := 93) (i := 0) (j := 1) (x := 207) dX11_judged_93 rfl rfl ?_
      refine gfX11_104 (pc := 94) rfl h0 dX11_judged_94 ?_
      refine pg_iconst (pc := 97) (v := 2) dX11_judged_97 (by decide) ?_
      refine pg_iconst (pc := 98) (v := 3) dX11_judged_98 (by decide) ?_
      refine pg_iload (pc := 99) (i := 4) (j := 5) (x := v4) dX11_judged_99 rfl ?_
      refine pg_imul (pc := 101) dX11_judged_101 ?_
      refine pg_iadd (pc := 102) dX11_judged_102 ?_
      refine pg_iald (pc := 103) h0.2.2.2.2.2.2.2.2.2.2.2.1 (b1 c0 c1) dX11_judged_103 ?_
      refine pg_aload_n (pc := 104) (i := 0) (j := 1) (x := 207) dX11_judged_104 rfl rfl ?_
      refine gfX11_104 (pc := 105) rfl h0 dX11_judged_105 ?_
      refine pg_iconst (pc := 108) (v := 3) dX11_judged_108 (by decide) ?_
      refine pg_iconst (pc := 109) (v := 3) dX11_judged_109 (by decide) ?_
      refine pg_iload (pc := 110) (i := 4) (j := 5) (x := v4) dX11_judged_110 rfl ?_
      refine pg_imul (pc := 112) dX11_judged_112 ?_
      refine pg_iadd (pc := 113) dX11_judged_113 ?_
      refine pg_iald (pc := 114) h0.2.2.2.2.2.2.2.2.2.2.2.1 (b2 c0 c1) dX11_judged_114 ?_
      refine pg_callV (pc := 115) (As := [.int (M.1 218 (1 + (3 * v4)).toNatClampNeg), .int (M.1 218 (2 + (3 * v4)).toNatClampNeg), .int (M.1 218 (3 + (3 * v4)).toNatClampNeg)]) (st := []) okX11_does lkX11_382 rfl h0.1 rfl (Nat.le_refl _) (Nat.le_of_ble_eq_true rfl) (e2 c0 c1) dX11_judged_115 (fun r3 M3 w3 => ?_)
      obtain ⟨x3, rfl, w3⟩ := w3
      refine pg_istore (pc := 118) (i := 6) (ls' := [(6, .int x3), (5, .int (M.1 218 (1 + (3 * v4)).toNatClampNeg)), (0, .ref 207), (1, .int v1), (2, .int v2), (3, .int v3), (4, .int v4)]) dX11_judged_118 (by decide) rfl ?_
      refine pg_iload (pc := 120) (i := 6) (j := 0) (x := x3) dX11_judged_120 rfl ?_
      refine pg_if_ne (pc := 122) (tgt := 134) dX11_judged_122 (by decide) (fun c2 => ?_) (fun c2 => ?_)
      · skip
        refine pg_iload_n (pc := 134) (i := 2) (j := 4) (x := v2) dX11_judged_134 rfl rfl ?_
        refine pg_istore_n (pc := 135) (i := 2) (ls' := [(2, .int v2), (6, .int x3), (5, .int (M.1 218 (1 + (3 * v4)).toNatClampNeg)), (0, .ref 207), (1, .int v1), (3, .int v3), (4, .int v4)]) dX11_judged_135 rfl (by decide) rfl ?_
        refine pg_iinc (pc := 136) (i := 4) (j := 6) (x := v4) (v := v4 + 1) (ls' := [(4, .int (v4 + 1)), (2, .int v2), (6, .int x3), (5, .int (M.1 218 (1 + (3 * v4)).toNatClampNeg)), (0, .ref 207), (1, .int v1), (3, .int v3)]) dX11_judged_136 rfl rfl (by decide) rfl ?_
        refine pg_goto (pc := 139) (tgt := 31) dX11_judged_139 (by decide) ?_
        refine pg_drop (ks := [4, 5, 1, 6, 0]) (ls' := [(0, .ref 207), (1, .int v1), (2, .int v2), (3, .int v3), (4, .int (v4 + 1))]) rfl ?_
        exact k3 c0 c1 x3 M3 w3 c2
      · skip
        refine pg_iload_n (pc := 125) (i := 2) (j := 4) (x := v2) dX11_judged_125 rfl rfl ?_
        refine pg_if_ge (pc := 126) (tgt := 134) dX11_judged_126 (by decide) (fun c3 => ?_) (fun c3 => ?_)
        · skip
          refine pg_iload_n (pc := 134) (i := 2) (j := 4) (x := v2) dX11_judged_134 rfl rfl ?_
          refine pg_istore_n (pc := 135) (i := 2) (ls' := [(2, .int v2), (6, .int x3), (5, .int (M.1 218 (1 + (3 * v4)).toNatClampNeg)), (0, .ref 207), (1, .int v1), (3, .int v3), (4, .int v4)]) dX11_judged_135 rfl (by decide) rfl ?_
          refine pg_iinc (pc := 136) (i := 4) (j := 6) (x := v4) (v := v4 + 1) (ls' := [(4, .int (v4 + 1)), (2, .int v2), (6, .int x3), (5, .int (M.1 218 (1 + (3 * v4)).toNatClampNeg)), (0, .ref 207), (1, .int v1), (3, .int v3)]) dX11_judged_136 rfl rfl (by decide) rfl ?_
          refine pg_goto (pc := 139) (tgt := 31) dX11_judged_139 (by decide) ?_
          refine pg_drop (ks := [4, 5, 1, 6, 0]) (ls' := [(0, .ref 207), (1, .int v1), (2, .int v2), (3, .int v3), (4, .int (v4 + 1))]) rfl ?_
          exact k4 c0 c1 x3 M3 w3 c2 c3
        · skip
          refine pg_iload (pc := 129) (i := 4) (j := 6) (x := v4) dX11_judged_129 rfl ?_
          refine pg_goto (pc := 131) (tgt := 135) dX11_judged_131 (by decide) ?_
          refine pg_istore_n (pc := 135) (i := 2) (ls' := [(2, .int v4), (6, .int x3), (5, .int (M.1 218 (1 + (3 * v4)).toNatClampNeg)), (0, .ref 207), (1, .int v1), (3, .int v3), (4, .int v4)]) dX11_judged_135 rfl (by decide) rfl ?_
          refine pg_iinc (pc := 136) (i := 4) (j := 6) (x := v4) (v := v4 + 1) (ls' := [(4, .int (v4 + 1)), (2, .int v4), (6, .int x3), (5, .int (M.1 218 (1 + (3 * v4)).toNatClampNeg)), (0, .ref 207), (1, .int v1), (3, .int v3)]) dX11_judged_136 rfl rfl (by decide) rfl ?_
          refine pg_goto (pc := 139) (tgt := 31) dX11_judged_139 (by decide) ?_
          refine pg_drop (ks := [4, 5, 1, 6, 0]) (ls' := [(0, .ref 207), (1, .int v1), (2, .int v4), (3, .int v3), (4, .int (v4 + 1))]) rfl ?_
          exact k5 c0 c1 x3 M3 w3 c2 c3
    · skip
      refine pg_aload_n (pc := 61) (i := 0) (j := 1) (x := 207) dX11_judged_61 rfl rfl ?_
      refine pg_sipush (pc := 62) (v := 1134) dX11_judged_62 (by decide) ?_
      refine pg_iconst (pc := 65) (v := 0) dX11_judged_65 (by decide) ?_
      refine pg_callV (pc := 66) (As := [.int 1134, .int 0]) (st := []) okX11_passes lkX11_379 rfl h0.1 rfl (Nat.le_refl _) (Nat.le_of_ble_eq_true rfl) (e3 c0 c1) dX11_judged_66 (fun r4 M4 w4 => ?_)
      obtain ⟨x4, rfl, w4⟩ := w4
      refine pg_istore (pc := 69) (i := 6) (ls' := [(6, .int x4), (5, .int (M.1 218 (1 + (3 * v4)).toNatClampNeg)), (0, .ref 207), (1, .int v1), (2, .int v2), (3, .int v3), (4, .int v4)]) dX11_judged_69 (by decide) rfl ?_
      refine pg_iload (pc := 71) (i := 6) (j := 0) (x := x4) dX11_judged_71 rfl ?_
      refine pg_if_le (pc := 73) (tgt := 85) dX11_judged_73 (by decide) (fun c2 => ?_) (fun c2 => ?_)
      · skip
        refine pg_iload_n (pc := 85) (i := 3) (j := 5) (x := v3) dX11_judged_85 rfl rfl ?_
        refine pg_istore_n (pc := 86) (i := 3) (ls' := [(3, .int v3), (6, .int x4), (5, .int (M.1 218 (1 + (3 * v4)).toNatClampNeg)), (0, .ref 207), (1, .int v1), (2, .int v2), (4, .int v4)]) dX11_judged_86 rfl (by decide) rfl ?_
        refine pg_goto (pc := 87) (tgt := 136) dX11_judged_87 (by decide) ?_
        refine pg_iinc (pc := 136) (i := 4) (j := 6) (x := v4) (v := v4 + 1) (ls' := [(4, .int (v4 + 1)), (3, .int v3), (6, .int x4), (5, .int (M.1 218 (1 + (3 * v4)).toNatClampNeg)), (0, .ref 207), (1, .int v1), (2, .int v2)]) dX11_judged_136 rfl rfl (by decide) rfl ?_
        refine pg_goto (pc := 139) (tgt := 31) dX11_judged_139 (by decide) ?_
        refine pg_drop (ks := [4, 5, 6, 1, 0]) (ls' := [(0, .ref 207), (1, .int v1), (2, .int v2), (3, .int v3), (4, .int (v4 + 1))]) rfl ?_
        exact k6 c0 c1 x4 M4 w4 c2
      · skip
        refine pg_iload_n (pc := 76) (i := 3) (j := 5) (x := v3) dX11_judged_76 rfl rfl ?_
        refine pg_if_ge (pc := 77) (tgt := 85) dX11_judged_77 (by decide) (fun c3 => ?_) (fun c3 => ?_)
        · skip
          refine pg_iload_n (pc := 85) (i := 3) (j := 5) (x := v3) dX11_judged_85 rfl rfl ?_
          refine pg_istore_n (pc := 86) (i := 3) (ls' := [(3, .int v3), (6, .int x4), (5, .int (M.1 218 (1 + (3 * v4)).toNatClampNeg)), (0, .ref 207), (1, .int v1), (2, .int v2), (4, .int v4)]) dX11_judged_86 rfl (by decide) rfl ?_
          refine pg_goto (pc := 87) (tgt := 136) dX11_judged_87 (by decide) ?_
          refine pg_iinc (pc := 136) (i := 4) (j := 6) (x := v4) (v := v4 + 1) (ls' := [(4, .int (v4 + 1)), (3, .int v3), (6, .int x4), (5, .int (M.1 218 (1 + (3 * v4)).toNatClampNeg)), (0, .ref 207), (1, .int v1), (2, .int v2)]) dX11_judged_136 rfl rfl (by decide) rfl ?_
          refine pg_goto (pc := 139) (tgt := 31) dX11_judged_139 (by decide) ?_
          refine pg_drop (ks := [4, 5, 6, 1, 0]) (ls' := [(0, .ref 207), (1, .int v1), (2, .int v2), (3, .int v3), (4, .int (v4 + 1))]) rfl ?_
          exact k7 c0 c1 x4 M4 w4 c2 c3
        · skip
          refine pg_iload (pc := 80) (i := 4) (j := 6) (x := v4) dX11_judged_80 rfl ?_
          refine pg_goto (pc := 82) (tgt := 86) dX11_judged_82 (by decide) ?_
          refine pg_istore_n (pc := 86) (i := 3) (ls' := [(3, .int v4), (6, .int x4), (5, .int (M.1 218 (1 + (3 * v4)).toNatClampNeg)), (0, .ref 207), (1, .int v1), (2, .int v2), (4, .int v4)]) dX11_judged_86 rfl (by decide) rfl ?_
          refine pg_goto (pc := 87) (tgt := 136) dX11_judged_87 (by decide) ?_
          refine pg_iinc (pc := 136) (i := 4) (j := 6) (x := v4) (v := v4 + 1) (ls' := [(4, .int (v4 + 1)), (3, .int v4), (6, .int x4), (5, .int (M.1 218 (1 + (3 * v4)).toNatClampNeg)), (0, .ref 207), (1, .int v1), (2, .int v2)]) dX11_judged_136 rfl rfl (by decide) rfl ?_
          refine pg_goto (pc := 139) (tgt := 31) dX11_judged_139 (by decide) ?_
          refine pg_drop (ks := [4, 5, 6, 1, 0]) (ls' := [(0, .ref 207), (1, .int v1), (2, .int v2), (3, .int v4), (4, .int (v4 + 1))]) rfl ?_
          exact k8 c0 c1 x4 M4 w4 c2 c3
theorem oX11_judged {d : Nat} {v1 : Int32} (h : pg_At S Λ YX11_judged d 0 [(0, .ref 207), (1, .int v1)] [] M P) : pg_Ev S Λ YX11_judged d [.ref 207, .int v1] M P := pg_Ev.of (by decide) (by first | decide | exact Nat.le_of_ble_eq_true rfl) h
theorem sX11_holds_0 {v1 : Int32} {Q0 : Int32 → pg_M → Prop} {Q1 : Int32 → pg_M → Prop} {Q2 : pg_M → Prop}
    (h0 : pg_isX11 Λ)
    (e0 : pg_Ev S Λ YX11_isCloth d [.ref 207, .int v1] (pg_si M 207 0 0) (fun r M' => ∃ x, r = some (.int x) ∧ Q0 x M'))
    (k0 : ∀ x1 M1, Q0 x1 M1 → (x1 = 0) → P (some (.int (-1))) M1)
    (e1 : ∀ x1 M1, Q0 x1 M1 → (¬ x1 = 0) → pg_Ev S Λ YX11_isHung d [.ref 207, .int 0, .int v1] M1 (fun r M' => ∃ x, r = some (.int x) ∧ Q1 x M'))
    (e2 : ∀ x1 M1, Q0 x1 M1 → (¬ x1 = 0) → ∀ x2 M2, Q1 x2 M2 → (¬ x2 = 0) → pg_Ev S Λ YX11_copies d [.ref 207, .int 0, .int 1134, .int 28] M2 (fun r M' => r = none ∧ Q2 M'))
    (k1 : ∀ x1 M1, Q0 x1 M1 → (¬ x1 = 0) → ∀ x2 M2, Q1 x2 M2 → (¬ x2 = 0) → ∀ M3, Q2 M3 → pg_At S Λ YX11_holds (d + 1) 36 [(0, .ref 207), (1, .int v1), (2, .int 1)] [] M3 P)
    (k2 : ∀ x1 M1, Q0 x1 M1 → (¬ x1 = 0) → ∀ x2 M2, Q1 x2 M2 → (x2 = 0) → P (some (.int (-1))) M2) :
    pg_At S Λ YX11_holds (d + 1) 0 [(0, .ref 207), (1, .int v1)] [] M P := by
  refine pg_aload_n (pc := 0) (i := 0) (j := 0) (x := 207) dX11_holds_0 rfl rfl ?_
  refine pg_iconst (pc := 1) (v := 0) dX11_holds_1 (by decide) ?_
  refine pfX11_1 (pc := 2) rfl h0 dX11_holds_2 ?_
  refine pg_aload_n (pc := 5) (i := 0) (j := 0) (x := 207) dX11_holds_5 rfl rfl ?_
  refine pg_iload_n (pc := 6) (i := 1) (j := 1) (x := v1) dX11_holds_6 rfl rfl ?_
  refine pg_callV (pc := 7) (As := [.int v1]) (st := []) okX11_isCloth lkX11_346 rfl h0.1 rfl (Nat.le_refl _) (Nat.le_of_ble_eq_true rfl) e0 dX11_holds_7 (fun r1 M1 w1 => ?_)
  obtain ⟨x1, rfl, w1⟩ := w1
  refine pg_if_eq (pc := 10) (tgt := 22) dX11_holds_10 (by decide) (fun c0 => ?_) (fun c0 => ?_)
  · skip
    refine pg_iconst (pc := 22) (v := (-1)) dX11_holds_22 (by decide) ?_
    exact pg_iret (pc := 23) rfl dX11_holds_23 (k0 x1 M1 w1 c0)
  · skip
    refine pg_aload_n (pc := 13) (i := 0) (j := 0) (x := 207) dX11_holds_13 rfl rfl ?_
    refine pg_iconst (pc := 14) (v := 0) dX11_holds_14 (by decide) ?_
    refine pg_iload_n (pc := 15) (i := 1) (j := 1) (x := v1) dX11_holds_15 rfl rfl ?_
    refine pg_callV (pc := 16) (As := [.int 0, .int v1]) (st := []) okX11_isHung lkX11_304 rfl h0.1 rfl (Nat.le_refl _) (Nat.le_of_ble_eq_true rfl) (e1 x1 M1 w1 c0) dX11_holds_16 (fun r2 M2 w2 => ?_)
    obtain ⟨x2, rfl, w2⟩ := w2
    refine pg_if_ne (pc := 19) (tgt := 24) dX11_holds_19 (by decide) (fun c1 => ?_) (fun c1 => ?_)
    · skip
      refine pg_aload_n (pc := 24) (i := 0) (j := 0) (x := 207) dX11_holds_24 rfl rfl ?_
      refine pg_iconst (pc := 25) (v := 0) dX11_holds_25 (by decide) ?_
      refine pg_sipush (pc := 26) (v := 1134) dX11_holds_26 (by decide) ?_
      refine pg_bipush (pc := 29) (v := 28) dX11_holds_29 (by decide) ?_
      refine pg_callV (pc := 31) (As := [.int 0, .int 1134, .int 28]) (st := []) okX11_copies lkX11_288 rfl h0.1 rfl (Nat.le_refl _) (Nat.le_of_ble_eq_true rfl) (e2 x1 M1 w1 c0 x2 M2 w2 c1) dX11_holds_31 (fun r3 M3 w3 => ?_)
      obtain ⟨rfl, w3⟩ := w3
      refine pg_iconst (pc := 34) (v := 1) dX11_holds_34 (by decide) ?_
      refine pg_istore_n (pc := 35) (i := 2) (ls' := [(2, .int 1), (0, .ref 207), (1, .int v1)]) dX11_holds_35 rfl (by decide) rfl ?_
      refine pg_drop (ks := [1, 2, 0]) (ls' := [(0, .ref 207), (1, .int v1), (2, .int 1)]) rfl ?_
      exact k1 x1 M1 w1 c0 x2 M2 w2 c1 M3 w3
    · skip
      refine pg_iconst (pc := 22) (v := (-1)) dX11_holds_22 (by decide) ?_
      exact pg_iret (pc := 23) rfl dX11_holds_23 (k2 x1 M1 w1 c0 x2 M2 w2 c1)
theorem sX11_holds_36 {v1 : Int32} {v2 : Int32} {Q0 : Int32 → pg_M → Prop} {Q1 : Int32 → pg_M → Prop}
    (h0 : pg_isX11 Λ)
    (k0 : (40 < v2) → P (some (.int (-1))) M)
    (e0 : (¬ 40 < v2) → pg_Ev S Λ YX11_passes d [.ref 207, .int 1134, .int 0] M (fun r M' => ∃ x, r = some (.int x) ∧ Q0 x M'))
    (e1 : (¬ 40 < v2) → ∀ x1 M1, Q0 x1 M1 → pg_Ev S Λ YX11_isHung d [.ref 207, .int 1134, .int v1] M1 (fun r M' => ∃ x, r = some (.int x) ∧ Q1 x M'))
    (k1 : (¬ 40 < v2) → ∀ x1 M1, Q0 x1 M1 → ∀ x2 M2, Q1 x2 M2 → (¬ x2 = 0) → pg_At S Λ YX11_holds (d + 1) 36 [(0, .ref 207), (1, .int v1), (2, .int (v2 + 1))] [] M2 P)
    (k2 : (¬ 40 < v2) → ∀ x1 M1, Q0 x1 M1 → ∀ x2 M2, Q1 x2 M2 → (x2 = 0) → P (some (.int v2)) M2) :
    pg_At S Λ YX11_holds (d + 1) 36 [(0, .ref 207), (1, .int v1), (2, .int v2)] [] M P := by
  refine pg_iload_n (pc := 36) (i := 2) (j := 2) (x := v2) dX11_holds_36 rfl rfl ?_
  refine pg_bipush (pc := 37) (v := 40) dX11_holds_37 (by decide) ?_
  refine pg_icmp_gt (pc := 39) (tgt := 70) dX11_holds_39 (by decide) (fun c0 => ?_) (fun c0 => ?_)
  · skip
    refine pg_iconst (pc := 70) (v := (-1)) dX11_holds_70 (by decide) ?_
    exact pg_iret (pc := 71) rfl dX11_holds_71 (k0 c0)
  · skip
    refine pg_aload_n (pc := 42) (i := 0) (j := 0) (x := 207) dX11_holds_42 rfl rfl ?_
    refine pg_sipush (pc := 43) (v := 1134) dX11_holds_43 (by decide) ?_
    refine pg_iconst (pc := 46) (v := 0) dX11_holds_46 (by decide) ?_
    refine pg_callV (pc := 47) (As := [.int 1134, .int 0]) (st := []) okX11_passes lkX11_379 rfl h0.1 rfl (Nat.le_refl _) (Nat.le_of_ble_eq_true rfl) (e0 c0) dX11_holds_47 (fun r1 M1 w1 => ?_)
    obtain ⟨x1, rfl, w1⟩ := w1
    refine pg_pop (pc := 50) dX11_holds_50 rfl ?_
    refine pg_aload_n (pc := 51) (i := 0) (j := 0) (x := 207) dX11_holds_51 rfl rfl ?_
    refine pg_sipush (pc := 52) (v := 1134) dX11_holds_52 (by decide) ?_
    refine pg_iload_n (pc := 55) (i := 1) (j := 1) (x := v1) dX11_holds_55 rfl rfl ?_
    refine pg_callV (pc := 56) (As := [.int 1134, .int v1]) (st := []) okX11_isHung lkX11_304 rfl h0.1 rfl (Nat.le_refl _) (Nat.le_of_ble_eq_true rfl) (e1 c0 x1 M1 w1) dX11_holds_56 (fun r2 M2 w2 => ?_)
    obtain ⟨x2, rfl, w2⟩ := w2
    refine pg_if_ne (pc := 59) (tgt := 64) dX11_holds_59 (by decide) (fun c1 => ?_) (fun c1 => ?_)
    · skip
      refine pg_iinc (pc := 64) (i := 2) (j := 2) (x := v2) (v := v2 + 1) (ls' := [(2, .int (v2 + 1)), (0, .ref 207), (1, .int v1)]) dX11_holds_64 rfl rfl (by decide) rfl ?_
      refine pg_goto (pc := 67) (tgt := 36) dX11_holds_67 (by decide) ?_
      refine pg_drop (ks := [1, 2, 0]) (ls' := [(0, .ref 207), (1, .int v1), (2, .int (v2 + 1))]) rfl ?_
      exact k1 c0 x1 M1 w1 x2 M2 w2 c1
    · skip
      refine pg_iload_n (pc := 62) (i := 2) (j := 2) (x := v2) dX11_holds_62 rfl rfl ?_
      exact pg_iret (pc := 63) rfl dX11_holds_63 (k2 c0 x1 M1 w1 x2 M2 w2 c1)
theorem oX11_holds {d : Nat} {v1 : Int32} (h : pg_At S Λ YX11_holds d 0 [(0, .ref 207), (1, .int v1)] [] M P) : pg_Ev S Λ YX11_holds d [.ref 207, .int v1] M P := pg_Ev.of (by decide) (by first | decide | exact Nat.le_of_ble_eq_true rfl) h

end PGS

