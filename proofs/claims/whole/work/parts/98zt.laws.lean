section PNT
variable {S : pg_S} {Λ : pg_L} {d : Nat} {M : pg_M}
/-- what a new PegLaws holds -/
def pn_new10 (M : pg_M) : Prop := rc_L M 169 rd_X0.1 rd_X0.2.1 ∧ rc_L M 184 rd_X0.1 rd_X0.2.1 ∧ (M.2.2 0 8 = 169 ∧ M.2.2 0 9 = 184 ∧ M.2.2 0 10 = 199 ∧ M.2.2 0 11 = 203) ∧ ∀ b, b < 207 → ¬ (169 ≤ b ∧ b < 199) → M.1 b = (fun _ => 0) ∧ M.2.1 b = fun _ => 0
theorem pnX10 (h : pg_full Λ) (hz : ∀ b, b < 207 → M.1 b = (fun _ => 0) ∧ M.2.1 b = fun _ => 0) (hr : M.2.2 0 8 = 169 ∧ M.2.2 0 9 = 184 ∧ M.2.2 0 10 = 199 ∧ M.2.2 0 11 = 203) : pn_Ev S Λ YX10_init (d + 3) 0 (.inr (10, [.null, .null, .null, .null, .null, .null, .null, .null, .null, .null, .null, .null, .long 0])) 206 7727 207 pn_new10 := by
  obtain ⟨f10, f7, f3, f8, f13, f19, f153, f161, f164, f169, f184, f199, f203, fs, fm, fg⟩ := id h
  refine pn_Ev.of M (by decide) rfl rfl (by omega) (by decide) ?_
  refine pn_aload_n (pc := 0) (i := 0) (j := 0) (x := 0) dX10_init_0 rfl rfl ?_
  refine pn_obj (pc := 1) (pg_g (pg_t1 31 rfl) rfl) pn_oi1 pn_oi2 (by decide) dX10_init_1 ?_
  refine pn_aload_n (pc := 4) (i := 0) (j := 0) (x := 0) dX10_init_4 rfl rfl ?_
  refine pn_new (n := 1) (pc := 5) (T := TX7) (N := 10) (ci := 7) (fs := [.null, .int 0, .int 0, .int 0, .int 0, .int 0, .long 0, .int 0, .int 0, .int 0]) tyX7 dX10_init_5 (pg_g (pg_t1 34 rfl) rfl) (pg_g (pg_t1 35 rfl) rfl) (pg_g (pg_t1 2 rfl) rfl) rfl pg_inX7 tyX7_ok (by decide +kernel) (by omega) ⟨by decide, by decide⟩ ?_
  refine pn_dup (pc := 8) dX10_init_8 rfl ?_
  refine pn_initN (host := "PegLaws") (n := 1) (n' := 3) (pc := 9) pnokX7 (pg_t1 36 rfl) (pnX7 (M := M) (d := d + 2) f7 (fun b h1 h2 => hz b (by omega))) dX10_init_9 (Nat.le_refl _) (by decide) rfl (by omega) ⟨by omega, by omega⟩ ⟨by decide, by decide⟩ (by omega) (by omega) (fun M' e9 b _ => by rw [e9]; exact ⟨rfl, rfl, rfl⟩) (fun M' e9 => ?_)
  rw [e9]
  clear e9 M'
  refine pn_putF (pc := 12) (k := 0) (N := 13) (T := TX10) (ty := .object "PegLaws$Reader") tyX10 rfl pg_inX10 tyX10_ok nmX10 (by decide) (Nat.le_of_ble_eq_true rfl) ⟨by omega, by omega⟩ (pg_g (pg_t2 161 rfl) rfl) rfl rfl rfl rfl rfl dX10_init_12 ?_
  refine pn_aload_n (pc := 15) (i := 0) (j := 0) (x := 0) dX10_init_15 rfl rfl ?_
  refine pn_new (n := 3) (pc := 16) (T := TX9) (N := 6) (ci := 9) (fs := [.null, .null, .null, .null, .int 0, .int 0]) tyX9 dX10_init_16 (pg_g (pg_t1 73 rfl) rfl) (pg_g (pg_t1 74 rfl) rfl) (pg_g (pg_t1 3 rfl) rfl) rfl pg_inX9 tyX9_ok (by decide +kernel) (by omega) ⟨by decide, by decide⟩ ?_
  refine pn_dup (pc := 19) dX10_init_19 rfl ?_
  refine pn_initN (host := "PegLaws") (n := 3) (n' := 8) (pc := 20) pnokX9 (pg_t1 75 rfl) (pnX9 (M := M) (d := d + 2) f3 (by omega) (fun b h1 h2 => hz b (by omega))) dX10_init_20 (Nat.le_refl _) (by decide) rfl (by omega) ⟨by omega, by omega⟩ ⟨by decide, by decide⟩ (by omega) (by omega) (fun M' e9 b _ => by rw [e9]; exact ⟨rfl, rfl, rfl⟩) (fun M' e9 => ?_)
  rw [e9]
  clear e9 M'
  refine pn_putF (pc := 23) (k := 1) (N := 13) (T := TX10) (ty := .object "PegLaws$State") tyX10 rfl pg_inX10 tyX10_ok nmX10 (by decide) (Nat.le_of_ble_eq_true rfl) ⟨by omega, by omega⟩ (pg_g (pg_t2 162 rfl) rfl) rfl rfl rfl rfl rfl dX10_init_23 ?_
  refine pn_aload_n (pc := 26) (i := 0) (j := 0) (x := 0) dX10_init_26 rfl rfl ?_
  refine pn_new (n := 8) (pc := 27) (T := TX9) (N := 6) (ci := 9) (fs := [.null, .null, .null, .null, .int 0, .int 0]) tyX9 dX10_init_27 (pg_g (pg_t1 73 rfl) rfl) (pg_g (pg_t1 74 rfl) rfl) (pg_g (pg_t1 3 rfl) rfl) rfl pg_inX9 tyX9_ok (by decide +kernel) (by omega) ⟨by decide, by decide⟩ ?_
  refine pn_dup (pc := 30) dX10_init_30 rfl ?_
  refine pn_initN (host := "PegLaws") (n := 8) (n' := 13) (pc := 31) pnokX9 (pg_t1 75 rfl) (pnX9 (M := M) (d := d + 2) f8 (by omega) (fun b h1 h2 => hz b (by omega))) dX10_init_31 (Nat.le_refl _) (by decide) rfl (by omega) ⟨by omega, by omega⟩ ⟨by decide, by decide⟩ (by omega) (by omega) (fun M' e9 b _ => by rw [e9]; exact ⟨rfl, rfl, rfl⟩) (fun M' e9 => ?_)
  rw [e9]
  clear e9 M'
  refine pn_putF (pc := 34) (k := 2) (N := 13) (T := TX10) (ty := .object "PegLaws$State") tyX10 rfl pg_inX10 tyX10_ok nmX10 (by decide) (Nat.le_of_ble_eq_true rfl) ⟨by omega, by omega⟩ (pg_g (pg_t2 163 rfl) rfl) rfl rfl rfl rfl rfl dX10_init_34 ?_
  refine pn_aload_n (pc := 37) (i := 0) (j := 0) (x := 0) dX10_init_37 rfl rfl ?_
  refine pn_new (n := 13) (pc := 38) (T := TX2) (N := 6) (ci := 2) (fs := [.null, .null, .null, .null, .null, .int 0]) tyX2 dX10_init_38 (pg_g (pg_t1 115 rfl) rfl) (pg_g (pg_t1 116 rfl) rfl) (pg_g (pg_t1 4 rfl) rfl) rfl pg_inX2 tyX2_ok (by decide +kernel) (by omega) ⟨by decide, by decide⟩ ?_
  refine pn_dup (pc := 41) dX10_init_41 rfl ?_
  refine pn_initN (host := "PegLaws") (n := 13) (n' := 19) (pc := 42) pnokX2 (pg_t1 117 rfl) (pnX2 (M := M) (d := d + 2) f13 (by omega) (fun b h1 h2 => hz b (by omega))) dX10_init_42 (Nat.le_refl _) (by decide) rfl (by omega) ⟨by omega, by omega⟩ ⟨by decide, by decide⟩ (by omega) (by omega) (fun M' e9 b _ => by rw [e9]; exact ⟨rfl, rfl, rfl⟩) (fun M' e9 => ?_)
  rw [e9]
  clear e9 M'
  refine pn_putF (pc := 45) (k := 3) (N := 13) (T := TX10) (ty := .object "PegLaws$Felt") tyX10 rfl pg_inX10 tyX10_ok nmX10 (by decide) (Nat.le_of_ble_eq_true rfl) ⟨by omega, by omega⟩ (pg_g (pg_t2 164 rfl) rfl) rfl rfl rfl rfl rfl dX10_init_45 ?_
  refine pn_aload_n (pc := 48) (i := 0) (j := 0) (x := 0) dX10_init_48 rfl rfl ?_
  refine pn_new (n := 19) (pc := 49) (T := TX6) (N := 6) (ci := 6) (fs := [.null, .null, .null, .null, .int 0, .int 0]) tyX6 dX10_init_49 (pg_g (pg_t1 141 rfl) rfl) (pg_g (pg_t1 142 rfl) rfl) (pg_g (pg_t1 5 rfl) rfl) rfl pg_inX6 tyX6_ok (by decide +kernel) (by omega) ⟨by decide, by decide⟩ ?_
  refine pn_dup (pc := 52) dX10_init_52 rfl ?_
  refine pn_init (n := 19) (n' := 153) (pc := 53) pnokX6 (pg_g (pg_t1 143 rfl) rfl) (pnX6 (M := M) (d := d + 1) f19 fs fm fg (fun b h1 h2 => hz b (by omega))) dX10_init_53 (Nat.le_refl _) (by decide) rfl (by omega) ⟨by omega, by omega⟩ ⟨by decide, by decide⟩ (by omega) (by omega) (fun M' e9 b _ => by rw [e9]; exact ⟨rfl, rfl, rfl⟩) (fun M' e9 => ?_)
  rw [e9]
  clear e9 M'
  refine pn_putF (pc := 56) (k := 4) (N := 13) (T := TX10) (ty := .object "PegLaws$Past") tyX10 rfl pg_inX10 tyX10_ok nmX10 (by decide) (Nat.le_of_ble_eq_true rfl) ⟨by omega, by omega⟩ (pg_g (pg_t2 165 rfl) rfl) rfl rfl rfl rfl rfl dX10_init_56 ?_
  refine pn_aload_n (pc := 59) (i := 0) (j := 0) (x := 0) dX10_init_59 rfl rfl ?_
  refine pn_new (n := 153) (pc := 60) (T := TX3) (N := 10) (ci := 3) (fs := [.null, .null, .null, .null, .null, .null, .null, .int 0, .int 0, .int 0]) tyX3 dX10_init_60 (pg_g (pg_t1 174 rfl) rfl) (pg_g (pg_t1 175 rfl) rfl) (pg_g (pg_t1 6 rfl) rfl) rfl pg_inX3 tyX3_ok (by decide +kernel) (by omega) ⟨by decide, by decide⟩ ?_
  refine pn_dup (pc := 63) dX10_init_63 rfl ?_
  refine pn_initN (host := "PegLaws") (n := 153) (n' := 161) (pc := 64) pnokX3 (pg_t1 176 rfl) (pnX3 (M := M) (d := d + 2) f153 (fun b h1 h2 => hz b (by omega))) dX10_init_64 (Nat.le_refl _) (by decide) rfl (by omega) ⟨by omega, by omega⟩ ⟨by decide, by decide⟩ (by omega) (by omega) (fun M' e9 b _ => by rw [e9]; exact ⟨rfl, rfl, rfl⟩) (fun M' e9 => ?_)
  rw [e9]
  clear e9 M'
  refine pn_putF (pc := 67) (k := 5) (N := 13) (T := TX10) (ty := .object "PegLaws$Filler") tyX10 rfl pg_inX10 tyX10_ok nmX10 (by decide) (Nat.le_of_ble_eq_true rfl) ⟨by omega, by omega⟩ (pg_g (pg_t2 166 rfl) rfl) rfl rfl rfl rfl rfl dX10_init_67 ?_
  refine pn_aload_n (pc := 70) (i := 0) (j := 0) (x := 0) dX10_init_70 rfl rfl ?_
  refine pn_new (n := 161) (pc := 71) (T := TX0) (N := 2) (ci := 0) (fs := [.null, .null]) tyX0 dX10_init_71 (pg_g (pg_t1 214 rfl) rfl) (pg_g (pg_t1 215 rfl) rfl) (pg_g (pg_t1 7 rfl) rfl) rfl pg_inX0 tyX0_ok (by decide +kernel) (by omega) ⟨by decide, by decide⟩ ?_
  refine pn_dup (pc := 74) dX10_init_74 rfl ?_
  refine pn_initN (host := "PegLaws") (n := 161) (n' := 164) (pc := 75) pnokX0 (pg_t1 216 rfl) (pnX0 (M := M) (d := d + 2) f161 (fun b h1 h2 => hz b (by omega))) dX10_init_75 (Nat.le_refl _) (by decide) rfl (by omega) ⟨by omega, by omega⟩ ⟨by decide, by decide⟩ (by omega) (by omega) (fun M' e9 b _ => by rw [e9]; exact ⟨rfl, rfl, rfl⟩) (fun M' e9 => ?_)
  rw [e9]
  clear e9 M'
  refine pn_putF (pc := 78) (k := 6) (N := 13) (T := TX10) (ty := .object "PegLaws$Chances") tyX10 rfl pg_inX10 tyX10_ok nmX10 (by decide) (Nat.le_of_ble_eq_true rfl) ⟨by omega, by omega⟩ (pg_g (pg_t2 167 rfl) rfl) rfl rfl rfl rfl rfl dX10_init_78 ?_
  refine pn_aload_n (pc := 81) (i := 0) (j := 0) (x := 0) dX10_init_81 rfl rfl ?_
  refine pn_new (n := 164) (pc := 82) (T := TX4) (N := 6) (ci := 4) (fs := [.null, .null, .null, .null, .int 0, .int 0]) tyX4 dX10_init_82 (pg_g (pg_t1 227 rfl) rfl) (pg_g (pg_t1 228 rfl) rfl) (pg_g (pg_t1 8 rfl) rfl) rfl pg_inX4 tyX4_ok (by decide +kernel) (by omega) ⟨by decide, by decide⟩ ?_
  refine pn_dup (pc := 85) dX10_init_85 rfl ?_
  refine pn_initN (host := "PegLaws") (n := 164) (n' := 169) (pc := 86) pnokX4 (pg_t1 229 rfl) (pnX4 (M := M) (d := d + 2) f164 (fun b h1 h2 => hz b (by omega))) dX10_init_86 (Nat.le_refl _) (by decide) rfl (by omega) ⟨by omega, by omega⟩ ⟨by decide, by decide⟩ (by omega) (by omega) (fun M' e9 b _ => by rw [e9]; exact ⟨rfl, rfl, rfl⟩) (fun M' e9 => ?_)
  rw [e9]
  clear e9 M'
  refine pn_putF (pc := 89) (k := 7) (N := 13) (T := TX10) (ty := .object "PegLaws$Laundry") tyX10 rfl pg_inX10 tyX10_ok nmX10 (by decide) (Nat.le_of_ble_eq_true rfl) ⟨by omega, by omega⟩ (pg_g (pg_t2 168 rfl) rfl) rfl rfl rfl rfl rfl dX10_init_89 ?_
  refine pn_aload_n (pc := 92) (i := 0) (j := 0) (x := 0) dX10_init_92 rfl rfl ?_
  refine pn_new (n := 169) (pc := 93) (T := TX5) (N := 16) (ci := 5) (fs := [.null, .null, .null, .null, .null, .null, .null, .null, .null, .null, .int 0, .int 0, .int 0, .int 0, .int 0, .int 0]) tyX5 dX10_init_93 (pg_g (pg_t2 15 rfl) rfl) (pg_g (pg_t2 16 rfl) rfl) (pg_g (pg_t1 9 rfl) rfl) rfl pg_inX5 tyX5_ok (by decide +kernel) (by omega) ⟨by decide, by decide⟩ ?_
  refine pn_dup (pc := 96) dX10_init_96 rfl ?_
  refine pn_init (n := 169) (n' := 184) (pc := 97) pnokX5 (pg_g (pg_t2 17 rfl) rfl) (pnX5 (M := M) (d := d) f169 (by omega) (fun b h1 h2 => hz b (by omega))) dX10_init_97 (Nat.le_refl _) (by decide) rfl (by omega) ⟨by omega, by omega⟩ ⟨by decide, by decide⟩ (by omega) (by omega) (fun M' e9 b hb => ⟨(e9.2.1 b (by omega)).1, (e9.2.1 b (by omega)).2, by rw [e9.2.2]⟩) (fun M1 l1 => ?_)
  have z1 : ∀ b, b < 207 ∧ ¬ (169 ≤ b ∧ b < 184) → M1.1 b = (fun _ => 0) ∧ M1.2.1 b = fun _ => 0 := fun b hb => ⟨(l1.2.1 b hb.2).1.trans (hz b hb.1).1, (l1.2.1 b hb.2).2.trans (hz b hb.1).2⟩
  refine pn_put (pc := 100) (k := 8) (N := 13) (T := TX10) (ty := .object "PegLaws$Line") tyX10 rfl pg_inX10 tyX10_ok nmX10 (by decide) (Nat.le_of_ble_eq_true rfl) ⟨by omega, by omega⟩ (pg_g (pg_t2 169 rfl) rfl) rfl rfl rfl rfl rfl dX10_init_100 ?_
  refine pn_aload_n (pc := 103) (i := 0) (j := 0) (x := 0) dX10_init_103 rfl rfl ?_
  refine pn_new (n := 184) (pc := 104) (T := TX5) (N := 16) (ci := 5) (fs := [.null, .null, .null, .null, .null, .null, .null, .null, .null, .null, .int 0, .int 0, .int 0, .int 0, .int 0, .int 0]) tyX5 dX10_init_104 (pg_g (pg_t2 15 rfl) rfl) (pg_g (pg_t2 16 rfl) rfl) (pg_g (pg_t1 9 rfl) rfl) rfl pg_inX5 tyX5_ok (by decide +kernel) (by omega) ⟨by decide, by decide⟩ ?_
  refine pn_dup (pc := 107) dX10_init_107 rfl ?_
  refine pn_init (n := 184) (n' := 199) (pc := 108) pnokX5 (pg_g (pg_t2 17 rfl) rfl) (pnX5 (M := M1) (d := d) f184 (by omega) (fun b h1 h2 => z1 b (by omega))) dX10_init_108 (Nat.le_refl _) (by decide) rfl (by omega) ⟨by omega, by omega⟩ ⟨by decide, by decide⟩ (by omega) (by omega) (fun M' e9 b hb => ⟨(e9.2.1 b (by omega)).1, (e9.2.1 b (by omega)).2, by rw [e9.2.2]⟩) (fun M2 l2 => ?_)
  have z2 : ∀ b, b < 207 ∧ ¬ (169 ≤ b ∧ b < 199) → M2.1 b = (fun _ => 0) ∧ M2.2.1 b = fun _ => 0 := fun b hb => ⟨(l2.2.1 b (by omega)).1.trans (z1 b (by omega)).1, (l2.2.1 b (by omega)).2.trans (z1 b (by omega)).2⟩
  refine pn_put (pc := 111) (k := 9) (N := 13) (T := TX10) (ty := .object "PegLaws$Line") tyX10 rfl pg_inX10 tyX10_ok nmX10 (by decide) (Nat.le_of_ble_eq_true rfl) ⟨by omega, by omega⟩ (pg_g (pg_t2 170 rfl) rfl) rfl rfl rfl rfl rfl dX10_init_111 ?_
  refine pn_aload_n (pc := 114) (i := 0) (j := 0) (x := 0) dX10_init_114 rfl rfl ?_
  refine pn_new (n := 199) (pc := 115) (T := TX1) (N := 6) (ci := 1) (fs := [.null, .null, .null, .int 0, .int 0, .int 0]) tyX1 dX10_init_115 (pg_g (pg_t2 132 rfl) rfl) (pg_g (pg_t2 133 rfl) rfl) (pg_g (pg_t1 12 rfl) rfl) rfl pg_inX1 tyX1_ok (by decide +kernel) (by omega) ⟨by decide, by decide⟩ ?_
  refine pn_dup (pc := 118) dX10_init_118 rfl ?_
  refine pn_initN (host := "PegLaws") (n := 199) (n' := 203) (pc := 119) pnokX1 (pg_t2 134 rfl) (pnX1 (M := M2) (d := d + 2) f199 (by omega) (fun b h1 h2 => z2 b (by omega))) dX10_init_119 (Nat.le_refl _) (by decide) rfl (by omega) ⟨by omega, by omega⟩ ⟨by decide, by decide⟩ (by omega) (by omega) (fun M' e9 b _ => by rw [e9]; exact ⟨rfl, rfl, rfl⟩) (fun M' e9 => ?_)
  rw [e9]
  clear e9 M'
  refine pn_put (pc := 122) (k := 10) (N := 13) (T := TX10) (ty := .object "PegLaws$Day") tyX10 rfl pg_inX10 tyX10_ok nmX10 (by decide) (Nat.le_of_ble_eq_true rfl) ⟨by omega, by omega⟩ (pg_g (pg_t2 171 rfl) rfl) rfl rfl rfl rfl rfl dX10_init_122 ?_
  refine pn_aload_n (pc := 125) (i := 0) (j := 0) (x := 0) dX10_init_125 rfl rfl ?_
  refine pn_new (n := 203) (pc := 126) (T := TX1) (N := 6) (ci := 1) (fs := [.null, .null, .null, .int 0, .int 0, .int 0]) tyX1 dX10_init_126 (pg_g (pg_t2 132 rfl) rfl) (pg_g (pg_t2 133 rfl) rfl) (pg_g (pg_t1 12 rfl) rfl) rfl pg_inX1 tyX1_ok (by decide +kernel) (by omega) ⟨by decide, by decide⟩ ?_
  refine pn_dup (pc := 129) dX10_init_129 rfl ?_
  refine pn_initN (host := "PegLaws") (n := 203) (n' := 207) (pc := 130) pnokX1 (pg_t2 134 rfl) (pnX1 (M := M2) (d := d + 2) f203 (by omega) (fun b h1 h2 => z2 b (by omega))) dX10_init_130 (Nat.le_refl _) (by decide) rfl (by omega) ⟨by omega, by omega⟩ ⟨by decide, by decide⟩ (by omega) (by omega) (fun M' e9 b _ => by rw [e9]; exact ⟨rfl, rfl, rfl⟩) (fun M' e9 => ?_)
  rw [e9]
  clear e9 M'
  refine pn_put (pc := 133) (k := 11) (N := 13) (T := TX10) (ty := .object "PegLaws$Day") tyX10 rfl pg_inX10 tyX10_ok nmX10 (by decide) (Nat.le_of_ble_eq_true rfl) ⟨by omega, by omega⟩ (pg_g (pg_t2 172 rfl) rfl) rfl rfl rfl rfl rfl dX10_init_133 ?_
  refine pn_aload_n (pc := 136) (i := 0) (j := 0) (x := 0) dX10_init_136 rfl rfl ?_
  refine pn_lconst (pc := 137) (v := 0) dX10_init_137 rfl ?_
  refine pn_put (pc := 138) (k := 12) (N := 13) (T := TX10) (ty := .long) tyX10 rfl pg_inX10 tyX10_ok nmX10 (by decide) (Nat.le_of_ble_eq_true rfl) ⟨by omega, by omega⟩ (pg_g (pg_t2 173 rfl) rfl) rfl rfl rfl rfl rfl dX10_init_138 ?_
  have r2 : M2.2.2 = M.2.2 := l2.2.2.trans l1.2.2
  have rL : rc_L M2 169 rd_X0.1 rd_X0.2.1 := by
    have e1 : ∀ k : Nat, k < 15 → M2.1 (169 + k) = M1.1 (169 + k) := fun k hk => (l2.2.1 (169 + k) (by omega)).1
    have h7 := l1.1
    unfold rc_L rc_U at h7 ⊢
    rw [show M2.1 169 = M1.1 169 from e1 0 (by omega), e1 2 (by omega), e1 3 (by omega), e1 4 (by omega), e1 5 (by omega), e1 6 (by omega), e1 7 (by omega), e1 8 (by omega), e1 9 (by omega), e1 12 (by omega), show M2.1 (169 + 9 + 1) = M1.1 (169 + 9 + 1) from e1 10 (by omega), show M2.1 (169 + 12 + 1) = M1.1 (169 + 12 + 1) from e1 13 (by omega)]
    exact h7
  have hr2 : M2.2.2 0 8 = 169 ∧ M2.2.2 0 9 = 184 ∧ M2.2.2 0 10 = 199 ∧ M2.2.2 0 11 = 203 := by rw [r2]; exact hr
  have z0 := z2 0 (by omega)
  refine pn_vret (pc := 141) rfl dX10_init_141 ⟨rL, l2.1, hr2, fun b h1 h2 => z2 b ⟨h1, h2⟩⟩ (fun b o ho => ?_)
  have hb : b = 0 := by
    by_cases q : b = 0
    · exact q
    · simp [pn_up, q] at ho
  subst hb
  simp only [pn_up, if_true] at ho
  cases Option.some.inj ho
  unfold pg_isX10 at f10
  rw [f10]
  simp [pg_ce, pg_fvs, pg_fv, pg_up, z0, hr2]
end PNT
