/-! dry: both -/
/-- the rank of a cloth among those to wash -/
def sp_rk (W c : Nat) : Nat := fb_ct (fun k => W.testBit k) c
/-- a set of ranks as a set of cloths -/
def sp_un (W N w : Nat) : Nat := sp_mk (fun c => W.testBit c && w.testBit (sp_rk W c)) N
theorem sp_rk_pc {W N : Nat} (hN : N ≤ 16) (hW : W < 2 ^ N) : sp_rk W N = sp_pc W := by
  unfold sp_rk sp_pc
  rw [show 16 = N + (16 - N) by omega, fb_ct_split]
  have h1 : fb_ct (fun k => W.testBit (N + k)) (16 - N) = 0 := by
    rw [fb_ct_zero]; intro k hk
    exact Nat.testBit_lt_two_pow (Nat.lt_of_lt_of_le hW (Nat.pow_le_pow_right (n := 2) (by decide) (show N ≤ N + k by omega)))
  omega
theorem sp_pc_lt {w m : Nat} (hm : m ≤ 16) (hw : w < 2 ^ m) : sp_pc w ≤ m := by
  rw [← sp_rk_pc hm hw]
  exact fb_ct_le _ _
theorem sp_rk_kth {W i b : Nat} (h : i < sp_rk W b) : ∃ c, c < b ∧ W.testBit c = true ∧ sp_rk W c = i := fb_ct_kth h
theorem sp_rk_inj {W c e : Nat} (hc : W.testBit c = true) (he : W.testBit e = true) (h : sp_rk W c = sp_rk W e) : c = e := fb_ct_kth_one hc he h
theorem sp_rk_lt {W c b : Nat} (hc : W.testBit c = true) (h : c < b) : sp_rk W c < sp_rk W b := by
  have h1 : sp_rk W (c + 1) = sp_rk W c + 1 := by unfold sp_rk; rw [fb_ct_succ, hc]; rfl
  have h2 : sp_rk W (c + 1) ≤ sp_rk W b := fb_ct_mono _ h
  omega
theorem sp_un_bit (W N w c : Nat) : (sp_un W N w).testBit c = (decide (c < N) && (W.testBit c && w.testBit (sp_rk W c))) := sp_mk_bit _ _ _
theorem sp_un_clr {W N w c : Nat} (hc : W.testBit c = true) : sp_un W N (sp_clr w (sp_rk W c)) = sp_clr (sp_un W N w) c := by
  apply Nat.eq_of_testBit_eq
  intro i
  rw [sp_un_bit, sp_clr_bit, sp_clr_bit, sp_un_bit]
  by_cases hi : W.testBit i = true
  · by_cases e : i = c
    · subst e; simp
    · have : ¬ sp_rk W i = sp_rk W c := fun z => e (sp_rk_inj hi hc z)
      simp [e, this]
  · rw [ts_nt hi]; simp
theorem sp_un_all {W N : Nat} (hW : W < 2 ^ N) : sp_un W N (2 ^ sp_rk W N - 1) = W := by
  apply Nat.eq_of_testBit_eq
  intro i
  rw [sp_un_bit]
  cases q : W.testBit i with
  | false => simp
  | true =>
    have hi : i < N := by
      refine Nat.lt_of_not_le (fun z => ?_)
      have := Nat.testBit_lt_two_pow (Nat.lt_of_lt_of_le hW (Nat.pow_le_pow_right (n := 2) (by decide) z))
      rw [q] at this; cases this
    rw [Nat.testBit_two_pow_sub_one, decide_eq_true (sp_rk_lt q hi), decide_eq_true hi]; rfl
theorem sp_mn_skip {A W : Nat} {f : Nat → Nat} (hAW : ∀ c, A.testBit c = true → W.testBit c = true) {c : Nat} : ∀ b, c ≤ b → sp_rk W c = sp_rk W b → sp_mn A f b = sp_mn A f c := by
  intro b
  induction b with
  | zero => intro h _; rw [show c = 0 by omega]
  | succ b ih =>
    intro h e
    by_cases e2 : c = b + 1
    · rw [e2]
    · have h1 : sp_rk W c ≤ sp_rk W b := fb_ct_mono _ (by omega)
      have h2 : sp_rk W (b + 1) = sp_rk W b + (if W.testBit b then 1 else 0) := fb_ct_succ _ _
      have h3 : W.testBit b = false := ts_nt (fun q => by rw [if_pos q] at h2; omega)
      simp only [sp_mn]
      rw [if_neg (fun q => by rw [hAW b q] at h3; cases h3)]
      refine ih (by omega) ?_
      rw [h3] at h2
      simp at h2
      omega
section PGR
variable {S : pg_S} {Λ : pg_L} {d h l : Nat} {M : pg_M} {G : sp_G} {L s : sp_N} {E : sp_E}
theorem rm_dry {w : Int32} (hh : h < 2 ^ 29) (hR : pg_isX11 Λ) (hg : rm_G M G) (hk : sp_okG G h) : pg_Ev S Λ YX11_dry (d + 10) [.ref 207, .int w] M (fun r M' => ∃ v, r = some (.int v) ∧ (v = sp_qdry G w ∧ rm_G M' G ∧ pg_fr rm_X M M')) := by
  have h6 := hk.l.1
  have hW := sp_wsh_lt (s := G.s) hk.l
  have hpc := sp_pc_6 hW
  have f0 : pg_fr [207, 219, 220, 227, 228, 229] M (pg_si (pg_si M 207 0 0) 207 35 0) := (pg_fr.si (by simp)).trans (pg_fr.si (by simp))
  have same : ∀ {m : pg_M}, pg_fr [207, 219, 220, 227, 228, 229] M m → (∀ j, j ∈ [2, 16, 23] → m.1 207 j = M.1 207 j) → rm_same M m := fun {m} h1 h2 => ⟨fun b q => h1.1 b (by simp at q ⊢; omega), fun b q => h1.2.1 b (by simp at q ⊢; omega), h2, fun j _ => by rw [h1.1 221 (by simp)]⟩
  refine oX11_dry (sX11_dry_0 hR ?_)
  refine pg_loop (fun i (m : pg_M) => pg_At S Λ YX11_dry (d + 10) 12 [(0, .ref 207), (1, .int w), (2, .int (nI i))] [] m _) (fun i m => m.1 207 35 = nI (sp_mk (fun c => decide (G.s 2 c = 0) && decide (0 < G.s 1 c)) i) ∧ (∀ c k, c < i → k < 6 → m.1 227 (6 * c + k) = nI (sp_dat G.L G.E G.s c k)) ∧ pg_fr [207, 219, 220, 227, 228, 229] M m ∧ ∀ j, j ∈ [2, 16, 23] → m.1 207 j = M.1 207 j) (G.L 4 0) ?_ ?_ 0 _ (Nat.zero_le _) ⟨by rw [pg_si_at, pk_us]; rfl, fun c k hc => by omega, f0, fun j hj => by rw [pg_si_at, pk_un (by simp at hj; omega), pg_si_at, pk_un (by simp at hj; omega)]⟩
  · rintro m ⟨m1, m2, m3, m4⟩
    have gm := hg.same (same m3 m4)
    have c9 : nI (G.L 4 0) ≤ nI (G.L 4 0) := nI_le (Nat.le_refl _) (by omega)
    have m1' : m.1 207 35 = nI (sp_wsh G.L G.s) := m1
    have hq0 : sp_ix (sp_pc (sp_wsh G.L G.s) + 1) w = none → sp_qdry G w = -1 := fun q => by unfold sp_qdry; rw [q]
    have hq1 : ∀ j, sp_ix (sp_pc (sp_wsh G.L G.s) + 1) w = some j → sp_qdry G w = if 99 < sp_drT G.L G.E G.s then -1 else if j = 0 then nI (sp_drT G.L G.E G.s) else nI ((sp_drR G.L G.E G.s).getD (j - 1) 0) := fun j q => by unfold sp_qdry; rw [q]
    have hT9 : sp_drT G.L G.E G.s ≤ 100 := sp_dv_le _ _ _
    have hwf := rm_washesFrom (S := S) (d := d + 2) (D := sp_dat G.L G.E G.s) (W := sp_wsh G.L G.s) hW (fun _ _ => sp_dat_le) (fun c q => by rw [sp_wsh_bit, Bool.and_eq_true, decide_eq_true_eq] at q; exact q.1) hR hk.l (sp_pc (sp_wsh G.L G.s)) (sp_wsh G.L G.s) 0 0 100 (pg_si m 207 34 100) rfl (by omega) (fun _ q => q) (by omega) (by omega) (gm.l.keep (pg_fr.si (X := [207]) (by simp)) (by simp) (by simp) (by simp)) (by rw [pg_si_at, pk_us]; rfl) (by rw [pg_si_at, pk_un (by decide)]; exact m1') (fun c k h1 h2 => by rw [pg_si_ne (by decide)]; exact m2 c k h1 h2)
    rw [Nat.xor_self, Nat.zero_max, show sp_dv (sp_dat G.L G.E G.s) (G.L 4 0) (sp_pc (sp_wsh G.L G.s)) (sp_wsh G.L G.s) 0 = sp_drT G.L G.E G.s from rfl, Nat.min_eq_right hT9, show sp_dg (sp_dat G.L G.E G.s) (G.L 4 0) (sp_drT G.L G.E G.s) (sp_pc (sp_wsh G.L G.s)) (sp_wsh G.L G.s) 0 = sp_drR G.L G.E G.s from rfl] at hwf
    have hRl : (sp_drR G.L G.E G.s).length = sp_pc (sp_wsh G.L G.s) := sp_dg_len _ _ _
    generalize sp_drT G.L G.E G.s = T at hT9 hwf hq1
    generalize sp_drR G.L G.E G.s = R at hwf hq1 hRl
    generalize hn : sp_pc (sp_wsh G.L G.s) = n at hpc hwf hq0 hq1 hRl
    have some1 : ∀ {x : Int32}, ¬ b2i (sp_ix (n + 1) w).isSome = 0 → ∃ j, j < n + 1 ∧ w = nI j ∧ sp_ix (n + 1) w = some j := fun q => by
      obtain ⟨j, hj⟩ := Option.isSome_iff_exists.mp (ts_nf (fun z => q (b2i_0.mpr z)))
      obtain ⟨a, b⟩ := (sp_ix_some (by omega)).mp hj
      exact ⟨j, a, b, hj⟩
    have T100 : nI T = 100 ↔ T = 100 := by rw [show (100 : Int32) = nI 100 from rfl, nI_eq (by omega) (by omega)]
    have fin : ∀ {N : pg_M}, pg_fr [207, 228, 229] (pg_si m 207 34 100) N → (∀ j, j ≠ 34 → N.1 207 j = (pg_si m 207 34 100).1 207 j) → rm_G N G ∧ pg_fr rm_X M N := fun {N} h1 h2 => by
      have a1 : pg_fr [207, 219, 220, 227, 228, 229] M N := (m3.trans (pg_fr.si (by simp))).trans (h1.mono (fun b hb => by simp at hb ⊢; omega))
      refine ⟨hg.same (same a1 (fun j hj => ?_)), rm_X.of a1 (fun x hx => by simp at hx; omega)⟩
      rw [h2 j (by simp at hj; omega), pg_si_at, pk_un (by simp at hj; omega)]
      exact m4 j hj
    refine sX11_dry_12 (Q0 := fun v M' => v = nI (G.L 4 0) ∧ M' = m) (Q1 := fun v M' => v = nI n ∧ M' = m) (Q2 := fun v M' => v = b2i (sp_ix (n + 1) w).isSome ∧ M' = m) (Q3 := fun M' => M'.1 207 34 = nI T ∧ (T < 100 → rm_row M' 0 ((pg_si m 207 34 100).1 228) R) ∧ (¬ T < 100 → M'.1 229 = (pg_si m 207 34 100).1 229) ∧ rm_wf 0 (pg_si m 207 34 100) M') (Q4 := fun _ _ => True) hR (pg_Ev.mono (by omega) (rm_cloths (d := 0) hR gm.l)) ?_ ?_ ?_ ?_ ?_ ?_ ?_ ?_ ?_ ?_ ?_ ?_ ?_
    · rintro v M1 ⟨rfl, rfl⟩ _
      rw [m1', ← hn]
      exact pg_Ev.mono (by omega) (rm_bits (d := 0) (by omega))
    · rintro v M1 ⟨rfl, rfl⟩ _ v2 M2 ⟨rfl, rfl⟩
      rw [← sp_ix_win (n := n) (by omega) rfl]
      exact rm_within
    · rintro v M1 ⟨rfl, rfl⟩ _ v2 M2 ⟨rfl, rfl⟩ v3 M3 ⟨rfl, rfl⟩ _
      exact pg_Ev.mono (by omega) hwf
    · rintro v M1 ⟨rfl, rfl⟩ _ v2 M2 ⟨rfl, rfl⟩ v3 M3 ⟨rfl, rfl⟩ q M4 _ _ q2
      obtain ⟨j, j1, rfl, j3⟩ := some1 (x := 0) q
      rw [← nI_0, nI_eq (by omega) (by omega)] at q2
      rw [show j = (j - 1) + 1 by omega, nI_pred]
      exact vp_in_nI (by omega) (by decide)
    · rintro v M1 ⟨rfl, rfl⟩ _ v2 M2 ⟨rfl, rfl⟩ v3 M3 ⟨rfl, rfl⟩ q M4 ⟨b1, b2, b3, b4⟩ q1 q2
      obtain ⟨j, j1, rfl, j3⟩ := some1 (x := 0) q
      rw [← nI_0, nI_eq (by omega) (by omega)] at q2
      rw [b1, T100] at q1
      obtain ⟨g1, g2⟩ := fin b4.1 b4.2.1
      have hget : R[j - 1]? = some (R.getD (j - 1) 0) := by rw [List.getElem?_eq_getElem (by omega)]; simp [show j - 1 < R.length by omega]
      have hrow := (b2 (by omega)).2 (j - 1) _ hget
      rw [Nat.zero_add] at hrow
      have ej : (nI j - 1).toNatClampNeg = j - 1 := by
        rw [show nI j - 1 = nI (j - 1) by rw [show j = (j - 1) + 1 by omega, nI_pred]; simp]
        exact nI_clamp (by omega)
      refine ⟨_, rfl, ?_, g1, g2⟩
      rw [hq1 j j3, if_neg (by omega), if_neg q2, ej]
      exact hrow
    · rintro v M1 ⟨rfl, rfl⟩ _ v2 M2 ⟨rfl, rfl⟩ v3 M3 ⟨rfl, rfl⟩ q M4 ⟨b1, b2, b3, b4⟩ q1 q2
      obtain ⟨j, j1, rfl, j3⟩ := some1 (x := 0) q
      rw [← nI_0, nI_eq (by omega) (by omega)] at q2
      rw [b1, T100] at q1
      obtain ⟨g1, g2⟩ := fin b4.1 b4.2.1
      exact ⟨_, rfl, by rw [hq1 j j3, if_neg (by omega), if_pos q2]; exact b1, g1, g2⟩
    · rintro v M1 ⟨rfl, rfl⟩ _ v2 M2 ⟨rfl, rfl⟩ v3 M3 ⟨rfl, rfl⟩ q M4 ⟨b1, b2, b3, b4⟩ q1
      obtain ⟨j, j1, e, j3⟩ := some1 (x := 0) q
      rw [b1, T100] at q1
      obtain ⟨g1, g2⟩ := fin b4.1 b4.2.1
      exact ⟨_, rfl, by rw [hq1 j j3, if_pos (by omega)], g1, g2⟩
    · rintro v M1 ⟨rfl, rfl⟩ _ v2 M2 ⟨rfl, rfl⟩ v3 M3 ⟨rfl, rfl⟩ q
      refine ⟨_, rfl, (hq0 ?_).symm, gm, rm_X.of m3 (fun x hx => by simp at hx; omega)⟩
      cases hi : sp_ix (n + 1) w with
      | none => rfl
      | some j => rw [hi] at q; exact absurd q (show ¬ (1 : Int32) = 0 by decide)
    all_goals (rintro v M1 ⟨rfl, rfl⟩ c; exact absurd c9 c)
  · rintro i m hi ⟨m1, m2, m3, m4⟩ ih
    have gm := hg.same (same m3 m4)
    have c9 : ¬ nI (G.L 4 0) ≤ nI i := nI_ge hi (by omega)
    have o3 := hk.s.1.2.2.1 i
    have ms := gm.s.2.2.1 i (by omega)
    have h8i : (8 : Int32) + nI i = nI (8 + i) := by rw [show (8 : Int32) = nI 8 from rfl, nI_add]
    have hst : m.1 221 ((8 : Int32) + nI i).toNatClampNeg = nI (G.s 1 i) := by
      rw [h8i, nI_clamp (by omega)]
      have := ms.2.1
      rw [show 0 + 8 + i = 8 + i by omega] at this
      exact this
    have mlt := sp_mk_lt (fun c => decide (G.s 2 c = 0) && decide (0 < G.s 1 c)) i
    have inner : ∀ m' : pg_M, m'.1 207 35 = nI (sp_mk (fun c => decide (G.s 2 c = 0) && decide (0 < G.s 1 c)) (i + 1)) → m' = pg_si m 207 35 (m'.1 207 35) → pg_At S Λ YX11_dry (d + 10) 59 [(0, .ref 207), (1, .int w), (2, .int (nI i)), (3, .int 0)] [] m' (fun r M' => ∃ v, r = some (.int v) ∧ (v = sp_qdry G w ∧ rm_G M' G ∧ pg_fr rm_X M M')) := by
      intro m' e1 e2
      have p1 : pg_fr [207, 219, 220, 227, 228, 229] M m' := by rw [e2]; exact m3.trans (pg_fr.si (by simp))
      have p2 : ∀ j, j ∈ [2, 16, 23] → m'.1 207 j = M.1 207 j := fun j hj => by rw [e2, pg_si_at, pk_un (by simp at hj; omega)]; exact m4 j hj
      have p3 : ∀ c k, c < i → k < 6 → m'.1 227 (6 * c + k) = nI (sp_dat G.L G.E G.s c k) := fun c k h1 h2 => by rw [e2, pg_si_ne (by decide)]; exact m2 c k h1 h2
      refine pg_loop (fun k (m : pg_M) => pg_At S Λ YX11_dry (d + 10) 59 [(0, .ref 207), (1, .int w), (2, .int (nI i)), (3, .int (nI k))] [] m _) (fun k m => m.1 207 35 = nI (sp_mk (fun c => decide (G.s 2 c = 0) && decide (0 < G.s 1 c)) (i + 1)) ∧ (∀ c j, (c < i ∧ j < 6) ∨ (c = i ∧ j < k) → m.1 227 (6 * c + j) = nI (sp_dat G.L G.E G.s c j)) ∧ pg_fr [207, 219, 220, 227, 228, 229] M m ∧ ∀ j, j ∈ [2, 16, 23] → m.1 207 j = M.1 207 j) 6 ?_ ?_ 0 m' (Nat.zero_le _) ⟨e1, fun c j q => p3 c j (by omega) (by omega), p1, p2⟩
      · rintro m ⟨n1, n2, n3, n4⟩
        have c6 : (6 : Int32) ≤ nI 6 := by decide
        refine sX11_dry_59 (Q0 := fun _ _ => True) hR (fun _ => ?_) (fun c => absurd c6 c) (fun c => absurd c6 c) (fun c => absurd c6 c)
        rw [nI_1]
        exact ih m ⟨n1, fun c k h1 h2 => n2 c k (by omega), n3, n4⟩
      · rintro k m hk6 ⟨n1, n2, n3, n4⟩ ih2
        have c6 : ¬ (6 : Int32) ≤ nI k := nI_ge (b := 6) hk6 (by decide)
        have gm2 := hg.same (same n3 n4)
        have hix : (6 : Int32) * nI i + nI k = nI (6 * i + k) := by rw [show (6 : Int32) = nI 6 from rfl, pk_mul, nI_add]
        refine sX11_dry_59 (Q0 := fun v M' => v = nI (sp_dat G.L G.E G.s i k) ∧ pg_fr [219, 220] m M') hR (fun c => absurd c c6) (fun _ => pg_Ev.mono (by omega) (rm_driedBehind (d := 0) hi hk6 hh hR gm2.s gm2.l hk.l hk.s.1)) ?_ ?_
        · rintro _ v M1 _; rw [hix]; exact vp_in_nI (by omega) (by decide)
        · rintro _ v M1 ⟨rfl, f1⟩
          rw [hix, nI_clamp (by omega), nI_1]
          refine ih2 _ ⟨by rw [pg_si_ne (by decide), f1.1 207 (by simp)]; exact n1, fun c j q => ?_, (n3.trans (f1.mono (fun b hb => by simp at hb ⊢; omega))).trans (pg_fr.si (by simp)), fun j hj => by rw [pg_si_ne (by decide), f1.1 207 (by simp)]; exact n4 j hj⟩
          rw [pg_si_at]
          by_cases e : 6 * c + j = 6 * i + k
          · have : c = i ∧ j = k := by omega
            obtain ⟨rfl, rfl⟩ := this
            rw [pk_us]
          · rw [pk_un e, f1.1 227 (by simp)]
            exact n2 c j (by omega)
    have set : ∀ v : Int32, v = nI (sp_mk (fun c => decide (G.s 2 c = 0) && decide (0 < G.s 1 c)) (i + 1)) → pg_At S Λ YX11_dry (d + 10) 59 [(0, .ref 207), (1, .int w), (2, .int (nI i)), (3, .int 0)] [] (pg_si m 207 35 v) (fun r M' => ∃ v, r = some (.int v) ∧ (v = sp_qdry G w ∧ rm_G M' G ∧ pg_fr rm_X M M')) := fun v e => inner _ (by rw [pg_si_at, pk_us, e]) (by rw [pg_si_at, pk_us])
    refine sX11_dry_12 (Q0 := fun v M' => v = nI (G.L 4 0) ∧ M' = m) (Q1 := fun _ _ => True) (Q2 := fun _ _ => True) (Q3 := fun _ => True) (Q4 := fun v M' => v = b2i (decide (¬ G.s 2 i = 0)) ∧ M' = m) hR (pg_Ev.mono (by omega) (rm_cloths (d := 0) hR gm.l)) ?_ ?_ ?_ ?_ ?_ ?_ ?_ ?_ ?_ ?_ ?_ ?_ ?_
    · rintro v M1 ⟨rfl, rfl⟩ c; exact absurd c c9
    · rintro v M1 ⟨rfl, rfl⟩ c; exact absurd c c9
    · rintro v M1 ⟨rfl, rfl⟩ c; exact absurd c c9
    · rintro v M1 ⟨rfl, rfl⟩ c; exact absurd c c9
    · rintro v M1 ⟨rfl, rfl⟩ c; exact absurd c c9
    · rintro v M1 ⟨rfl, rfl⟩ c; exact absurd c c9
    · rintro v M1 ⟨rfl, rfl⟩ c; exact absurd c c9
    · rintro v M1 ⟨rfl, rfl⟩ c; exact absurd c c9
    · rintro v M1 ⟨rfl, rfl⟩ _; exact pg_Ev.mono (by omega) (rm_isHung (d := 0) (b := 0) (by omega) (by omega) hR gm.s hk.s.1)
    · rintro v M1 ⟨rfl, rfl⟩ _ v2 M2 ⟨rfl, rfl⟩ q
      have q' := of_decide_eq_true (ts_nf (fun z => q (b2i_0.mpr z)))
      refine set _ ?_
      rw [m1, show (0 : Int32) = nI 0 from rfl, fa_or, Nat.or_zero]
      congr 1
      simp [sp_mk, q']
    · rintro v M1 ⟨rfl, rfl⟩ _ v2 M2 ⟨rfl, rfl⟩ q; rw [h8i]; exact vp_in_nI (by omega) (by decide)
    · rintro v M1 ⟨rfl, rfl⟩ _ v2 M2 ⟨rfl, rfl⟩ q q2
      rw [hst, show (0 : Int32) = nI 0 from rfl, nI_leI (by omega) (by omega)] at q2
      refine set _ ?_
      rw [m1, show (0 : Int32) = nI 0 from rfl, fa_or, Nat.or_zero]
      congr 1
      simp [sp_mk, show ¬ 0 < G.s 1 i by omega]
    · rintro v M1 ⟨rfl, rfl⟩ _ v2 M2 ⟨rfl, rfl⟩ q q2
      rw [hst, show (0 : Int32) = nI 0 from rfl, nI_leI (by omega) (by omega)] at q2
      rw [b2i_0, decide_eq_false_iff_not, Classical.not_not] at q
      refine set _ ?_
      rw [m1, nb_set (by omega)]
      congr 1
      simp [sp_mk, q, show 0 < G.s 1 i by omega]
end PGR
