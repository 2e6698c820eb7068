/-! dry: the class -/
section PGR
variable {S : pg_S} {Λ : pg_L} {d h l : Nat} {M : pg_M} {G : sp_G} {L s : sp_N} {E : sp_E}
theorem rc_dryAt {c t : Nat} (hc : c < L 4 0) (ht : t < 6) (hh : h < 2 ^ 29) (hL : pg_isX5 Λ l) (hl : rc_L M l L E) (hk : sp_okL L E) (ho : sp_okS L s h) : pg_Ev S Λ YX4_dryAt (d + 3) [.ref l, .int (nI c), .int (nI (s 4 1)), .int (nI t)] M (fun r M' => ∃ v, r = some (.int v) ∧ (v = nI (sp_dat L E s c t) ∧ pg_fr [l + 14] M M')) := by
  have h41 := ho.2.1
  refine oX4_dryAt (sX4_dryAt_0 ?_)
  refine pg_loop (fun k (m : pg_M) => pg_At S Λ YX4_dryAt (d + 3) 7 [(0, .ref l), (1, .int (nI c)), (2, .int (nI (s 4 1))), (4, .int (nI (sp_wetb L E c (s 4 1 + t) k))), (5, .int (nI (t + k)))] [] m _) (fun k m => pg_fr [l + 14] M m ∧ ∀ j, j < k → ¬ sp_wetb L E c (s 4 1 + t) (j + 1) = 0) (99 - t) ?_ ?_ 0 M (Nat.zero_le _) ⟨pg_fr.rfl', fun j hj => by omega⟩
  · rintro m ⟨m1, m2⟩
    have e : sp_dat L E s c t = 100 := sp_dat_late (k := 99 - t) (by omega) m2
    rw [show t + (99 - t) = 99 by omega]
    have c9 : (99 : Int32) ≤ nI 99 := by decide
    exact sX4_dryAt_7 (Q0 := fun _ _ => True) (Q1 := fun _ _ => True) hL (fun _ => ⟨_, rfl, by rw [e]; rfl, m1⟩) (fun c => absurd c9 c) (fun c => absurd c9 c) (fun c => absurd c9 c) (fun c => absurd c9 c)
  · rintro k m hk1 ⟨m1, m2⟩ ih
    have wl := sp_wetb_le (L := L) (E := E) (c := c) (start := s 4 1 + t) k
    have wl1 := sp_wetb_le (L := L) (E := E) (c := c) (start := s 4 1 + t) (k + 1)
    have c9 : ¬ (99 : Int32) ≤ nI (t + k) := nI_ge (b := 99) (by omega) (by decide)
    have hlm : rc_L m l L E := hl.keep m1 (fun j a b c => by simp; omega)
    refine sX4_dryAt_7 (Q0 := fun v M' => v = nI (sp_wind L (s 4 1 + t + k)) ∧ M' = m) (Q1 := fun v M' => v = nI (sp_wetb L E c (s 4 1 + t) (k + 1)) ∧ pg_fr [l + 14] m M') hL (fun c => absurd c c9) ?_ ?_ ?_ ?_
    · intro _
      rw [nI_add, show s 4 1 + (t + k) = s 4 1 + t + k by omega]
      exact pg_Ev.mono (by omega) (rc_windAt (d := 0) (by omega) hL hlm hk)
    · rintro _ v M1 ⟨rfl, rfl⟩; exact rc_wetAfter hc (by omega) hL hlm hk
    · rintro _ v M1 _ v2 M2 ⟨rfl, f2⟩ q
      rw [← nI_0, nI_eq (by omega) (by omega)] at q
      rw [nI_1, show t + k + 1 = t + (k + 1) by omega]
      refine ih M2 ⟨m1.trans f2, fun j hj => ?_⟩
      by_cases e : j = k
      · subst e; exact q
      · exact m2 j (by omega)
    · rintro _ v M1 _ v2 M2 ⟨rfl, f2⟩ q
      rw [← nI_0, nI_eq (by omega) (by omega)] at q
      have e := sp_dat_step (L := L) (E := E) (s := s) (c := c) (t := t) (k := k) (by omega) m2 q
      exact ⟨_, rfl, by rw [e, nI_1], m1.trans f2⟩
/-- what the laundry knows: which cloths, when each is dry by its turn -/
def rc_lw (M : pg_M) (N W m : Nat) (D : Nat → Nat → Nat) : Prop := M.1 164 4 = nI m ∧ (∀ c, c < N → W.testBit c = true → M.1 165 (sp_rk W c) = nI c) ∧ ∀ c t, c < N → t < m → W.testBit c = true → M.1 166 (6 * sp_rk W c + t) = nI (D c t)
/-- and how soon each set can be dry -/
def rc_lt (M : pg_M) (N W m w : Nat) (D : Nat → Nat → Nat) : Prop := ∀ u, u < w → M.1 167 u = nI (sp_dv D N (sp_pc u) (sp_un W N u) (m - sp_pc u))
theorem rc_lw.fr {M' : pg_M} {N W m : Nat} {D : Nat → Nat → Nat} (h : rc_lw M N W m D) (h1 : M'.1 164 4 = M.1 164 4) (h2 : M'.1 165 = M.1 165) (h3 : M'.1 166 = M.1 166) : rc_lw M' N W m D := by
  unfold rc_lw at h ⊢
  rw [h1, h2, h3]; exact h
theorem sp_clr_lt {w i : Nat} (h : w.testBit i = true) : sp_clr w i < w := by
  have e : sp_clr w i &&& w = sp_clr w i := by
    apply Nat.eq_of_testBit_eq
    intro j
    rw [Nat.testBit_and, sp_clr_bit]
    cases w.testBit j <;> simp
  have le : sp_clr w i ≤ w := by rw [← e]; exact Nat.and_le_right
  refine Nat.lt_of_le_of_ne le (fun z => ?_)
  have := congrArg (fun q => Nat.testBit q i) z
  simp only [sp_clr_bit, h] at this
  simp at this
theorem rc_dryIfNext {N W m w c r : Nat} {D : Nat → Nat → Nat} (hm : m ≤ 6) (hw : w < 2 ^ m) (hD : ∀ c n, D c n ≤ 100) (hc : c < N) (hWc : W.testBit c = true) (hrk : sp_rk W c < m) (hb : w.testBit (sp_rk W c) = true) (hr : sp_pc w = r + 1) (hX : pg_isX4 Λ) (hl : rc_lw M N W m D) (ht : rc_lt M N W m w D) : pg_Ev S Λ YX4_dryIfNext (d + 1) [.ref 164, .int (nI w), .int (nI (sp_rk W c))] M (fun q M' => ∃ v, q = some (.int v) ∧ (v = nI (max (D c (m - (r + 1))) (sp_dv D N r (sp_clr (sp_un W N w) c) (m - (r + 1) + 1))) ∧ M' = M)) := by
  have h64 : 2 ^ m ≤ 2 ^ 6 := Nat.pow_le_pow_right (by decide) hm
  have hpm := sp_pc_lt (w := w) (m := m) (by omega) hw
  have hcl := sp_clr_lt hb
  have hpc := sp_pc_clr (A := w) (c := sp_rk W c) (by omega) hb
  have e1 : (nI (sp_rk W c) * 6) + (M.1 164 4 - pg_bc (nI w)) = nI (6 * sp_rk W c + (m - (r + 1))) := by
    rw [hl.1, sp_pc_bc w (by omega), hr, pk_sub (by omega), show (6 : Int32) = nI 6 from rfl, pk_mul, nI_add, Nat.mul_comm]
  have e2 : nI w &&& (((1 : Int32) <<< (nI (sp_rk W c) &&& 31)) ^^^ (-1)) = nI (sp_clr w (sp_rk W c)) := by rw [nb_pow (by omega), nb_andn]; rfl
  have dl := sp_dv_le (D := D) (N := N) r (sp_clr (sp_un W N w) c) (m - (r + 1) + 1)
  have d9 := hD c (m - (r + 1))
  refine oX4_dryIfNext (sX4_dryIfNext_0 hX ?_ ?_ ?_)
  · rw [e1]; exact vp_in_nI (by omega) (by decide)
  · rw [e2]; exact vp_in_nI (by omega) (by decide)
  · rw [e1, e2, nI_clamp (by omega), nI_clamp (by omega), hl.2.2 c _ hc (by omega) hWc, ht _ hcl, sp_un_clr hWc, show sp_pc (sp_clr w (sp_rk W c)) = r by omega, show m - r = m - (r + 1) + 1 by omega, pg_max_nI (by omega) (by omega)]
    exact ⟨_, rfl, rfl, rfl⟩
theorem rc_soonestOf {N W m w r : Nat} {D : Nat → Nat → Nat} (hN : N ≤ 6) (hW : W < 2 ^ N) (hmW : m = sp_rk W N) (hw : w < 2 ^ m) (hD : ∀ c n, D c n ≤ 100) (hr : sp_pc w = r + 1) (hX : pg_isX4 Λ) (hl : rc_lw M N W m D) (ht : rc_lt M N W m w D) : pg_Ev S Λ YX4_soonestOf (d + 2) [.ref 164, .int (nI w)] M (fun q M' => ∃ v, q = some (.int v) ∧ (v = nI (sp_dv D N (sp_pc w) (sp_un W N w) (m - sp_pc w)) ∧ M' = M)) := by
  have hm : m ≤ 6 := by rw [hmW]; exact Nat.le_trans (fb_ct_le _ _) hN
  have h64 : 2 ^ m ≤ 2 ^ 6 := Nat.pow_le_pow_right (by decide) hm
  have hpm := sp_pc_lt (w := w) (m := m) (by omega) hw
  have hAW : ∀ c, (sp_un W N w).testBit c = true → W.testBit c = true := fun c q => by rw [sp_un_bit] at q; simp only [Bool.and_eq_true] at q; exact q.2.1
  rw [hr]
  simp only [sp_dv]
  generalize hf : (fun c => max (D c (m - (r + 1))) (sp_dv D N r (sp_clr (sp_un W N w) c) (m - (r + 1) + 1))) = f
  refine oX4_soonestOf (sX4_soonestOf_0 ?_)
  refine pg_loop (fun i (v : Int32) => pg_At S Λ YX4_soonestOf (d + 2) 5 [(0, .ref 164), (1, .int (nI w)), (2, .int v), (3, .int (nI i))] [] M _) (fun i v => ∀ b, b ≤ N → sp_rk W b = i → v = nI (sp_mn (sp_un W N w) f b)) m ?_ ?_ 0 100 (Nat.zero_le _) (fun b hb e => by
    have := sp_mn_skip (f := f) hAW (c := 0) b (Nat.zero_le _) (by rw [e]; rfl)
    rw [this]; rfl)
  · intro v hv
    have e := hv N (Nat.le_refl _) hmW.symm
    have c9 : nI m ≤ nI m := nI_le (Nat.le_refl _) (by omega)
    refine sX4_soonestOf_5 (Q0 := fun _ _ => True) hX ?_ ?_ ?_ ?_ <;> simp only [hl.1]
    · exact fun _ => ⟨_, rfl, e, trivial⟩
    all_goals exact fun c => absurd c9 c
  · intro i v hi hv ih
    have c9 : ¬ nI m ≤ nI i := nI_ge hi (by omega)
    obtain ⟨c, c1, c2, c3⟩ := sp_rk_kth (W := W) (i := i) (b := N) (by omega)
    have bi := nb_bit (n := w) (k := i) (by omega) (by omega)
    have hvc := hv c (by omega) c3
    have nx : ∀ b, b ≤ N → sp_rk W b = i + 1 → sp_mn (sp_un W N w) f b = if w.testBit i then min (sp_mn (sp_un W N w) f c) (f c) else sp_mn (sp_un W N w) f c := fun b hb e => by
      have r1 : sp_rk W (c + 1) = i + 1 := by
        show fb_ct _ (c + 1) = _
        rw [fb_ct_succ, c2]
        show sp_rk W c + 1 = _
        rw [c3]
      have hcb : c + 1 ≤ b := Nat.lt_of_not_le (fun z => by have : sp_rk W b ≤ sp_rk W c := fb_ct_mono _ z; omega)
      rw [sp_mn_skip hAW b hcb (by rw [r1, e])]
      simp only [sp_mn]
      rw [sp_un_bit, c2, c3, decide_eq_true c1, Bool.true_and, Bool.true_and]
    have ml := sp_mn_le (sp_un W N w) f c
    have fl : f c ≤ 100 := by
      rw [← hf]
      have := sp_dv_le (D := D) (N := N) r (sp_clr (sp_un W N w) c) (m - (r + 1) + 1)
      have := hD c (m - (r + 1))
      simp only
      omega
    refine sX4_soonestOf_5 (Q0 := fun v M' => v = nI (f c) ∧ M' = M) hX ?_ ?_ ?_ ?_ <;> simp only [hl.1]
    · exact fun c => absurd c c9
    · intro _ q
      rw [bi] at q
      rw [nI_1]
      refine ih v (fun b hb e => ?_)
      rw [nx b hb e, q]; exact hvc
    · intro _ q
      rw [bi] at q
      rw [← c3, ← hf]
      exact rc_dryIfNext hm hw hD c1 c2 (by omega) (by rw [c3]; exact ts_nf q) hr hX hl ht
    · rintro _ q v2 M2 ⟨rfl, rfl⟩
      rw [bi] at q
      rw [nI_1, hvc, pg_min_nI (by omega) (by omega)]
      refine ih _ (fun b hb e => ?_)
      rw [nx b hb e, ts_nf q]; rfl
theorem rc_firstInTime {N W m w r t : Nat} {D : Nat → Nat → Nat} (hN : N ≤ 6) (hmW : m = sp_rk W N) (hw : w < 2 ^ m) (ht9 : t ≤ 100) (hD : ∀ c n, D c n ≤ 100) (hr : sp_pc w = r + 1) (hX : pg_isX4 Λ) (hl : rc_lw M N W m D) (ht : rc_lt M N W m w D) {c0 : Nat} (hfst : sp_fst (sp_un W N w) (fun c => max (D c (m - (r + 1))) (sp_dv D N r (sp_clr (sp_un W N w) c) (m - (r + 1) + 1))) t N = some c0) : pg_Ev S Λ YX4_firstInTime (d + 2) [.ref 164, .int (nI w), .int (nI t)] M (fun q M' => ∃ v, q = some (.int v) ∧ (v = nI (sp_rk W c0) ∧ M' = M)) := by
  have hm : m ≤ 6 := by rw [hmW]; exact Nat.le_trans (fb_ct_le _ _) hN
  have h64 : 2 ^ m ≤ 2 ^ 6 := Nat.pow_le_pow_right (by decide) hm
  obtain ⟨⟨f1, f2, f3⟩, f4⟩ := sp_fst_some.mp hfst
  have hWc0 : W.testBit c0 = true ∧ w.testBit (sp_rk W c0) = true := by rw [sp_un_bit] at f2; simp only [Bool.and_eq_true] at f2; exact f2.2
  have rc0 : sp_rk W c0 < m := by rw [hmW]; exact sp_rk_lt hWc0.1 f1
  refine oX4_firstInTime (sX4_firstInTime_0 ?_)
  refine pg_loop (fun i (_ : Unit) => pg_At S Λ YX4_firstInTime (d + 2) 2 [(0, .ref 164), (1, .int (nI w)), (2, .int (nI t)), (3, .int (nI i))] [] M _) (fun i _ => i ≤ sp_rk W c0) m ?_ ?_ 0 () (Nat.zero_le _) (Nat.zero_le _)
  · intro _ q; omega
  · intro i _ hi hir ih
    have c9 : ¬ nI m ≤ nI i := nI_ge hi (by omega)
    obtain ⟨c, c1, c2, c3⟩ := sp_rk_kth (W := W) (i := i) (b := N) (by omega)
    have bi := nb_bit (n := w) (k := i) (by omega) (by omega)
    have fl : max (D c (m - (r + 1))) (sp_dv D N r (sp_clr (sp_un W N w) c) (m - (r + 1) + 1)) ≤ 100 := by
      have := sp_dv_le (D := D) (N := N) r (sp_clr (sp_un W N w) c) (m - (r + 1) + 1)
      have := hD c (m - (r + 1))
      omega
    have bc : w.testBit i = true → (sp_un W N w).testBit c = true := fun q => by rw [sp_un_bit, c2, c3, q, decide_eq_true c1]; rfl
    have eqc : c = c0 → sp_rk W c0 = i := fun e => by rw [← e]; exact c3
    refine sX4_firstInTime_2 (Q0 := fun v M' => v = nI (max (D c (m - (r + 1))) (sp_dv D N r (sp_clr (sp_un W N w) c) (m - (r + 1) + 1))) ∧ M' = M) hX ?_ ?_ ?_ ?_ ?_ <;> simp only [hl.1]
    · exact fun c => absurd c c9
    · intro _ q
      rw [bi] at q
      rw [nI_1]
      refine ih () (Nat.lt_of_le_of_ne hir (fun e => ?_))
      rw [← e] at hWc0
      rw [hWc0.2] at q; cases q
    · intro _ q
      rw [bi] at q
      have := rc_dryIfNext (S := S) (Λ := Λ) (d := d) hm hw hD c1 c2 (by omega) (by rw [c3]; exact ts_nf q) hr hX hl ht
      rw [c3] at this
      exact this
    · rintro _ q v2 M2 ⟨rfl, rfl⟩ q2
      rw [nI_ltI (by omega) (by omega)] at q2
      rw [nI_1]
      refine ih () (Nat.lt_of_le_of_ne hir (fun e => ?_))
      have : c = c0 := sp_rk_inj c2 hWc0.1 (by omega)
      subst this
      omega
    · rintro _ q v2 M2 ⟨rfl, rfl⟩ q2
      rw [bi] at q
      rw [nI_ltI (by omega) (by omega)] at q2
      refine ⟨_, rfl, ?_, rfl⟩
      have hcc : c = c0 := by
        rcases Nat.lt_trichotomy c c0 with z | z | z
        · exact absurd (by omega) (f4 c z (bc (ts_nf q)))
        · exact z
        · have := sp_rk_lt hWc0.1 z; omega
      rw [← hcc, c3]
theorem rc_layOrder {N W m T : Nat} {D : Nat → Nat → Nat} (hN : N ≤ 6) (hW : W < 2 ^ N) (hmW : m = sp_rk W N) (hD : ∀ c n, D c n ≤ 100) (hX : pg_isX4 Λ) (hl : rc_lw M N W m D) (ht : rc_lt M N W m (2 ^ m) D) (hT : T = sp_dv D N m W 0) : pg_Ev S Λ YX4_layOrder (d + 3) [.ref 164, .int (nI (2 ^ m - 1))] M (fun q M' => q = none ∧ ((∀ k x, (sp_dg D N T m W 0)[k]? = some x → M'.1 168 k = nI x) ∧ pg_fr [168] M M')) := by
  have hm : m ≤ 6 := by rw [hmW]; exact Nat.le_trans (fb_ct_le _ _) hN
  have h64 : 2 ^ m ≤ 2 ^ 6 := Nat.pow_le_pow_right (by decide) hm
  have p0 : 0 < 2 ^ m := Nat.pow_pos (by decide)
  have hun : sp_un W N (2 ^ m - 1) = W := by rw [hmW]; exact sp_un_all hW
  have hpall : sp_pc (2 ^ m - 1) = m := by
    rw [← sp_rk_pc (N := m) (by omega) (by omega)]
    exact fb_ct_all.mpr (fun k hk => by rw [Nat.testBit_two_pow_sub_one]; exact decide_eq_true hk)
  have hT9 : T ≤ 100 := by rw [hT]; exact sp_dv_le _ _ _
  have tall : M.1 167 (2 ^ m - 1) = nI T := by
    have := ht (2 ^ m - 1) (by omega)
    rw [hpall, hun, Nat.sub_self] at this
    rw [this, hT]
  refine oX4_layOrder (sX4_layOrder_0 ?_)
  refine pg_loop (fun k (q : Nat × pg_M) => pg_At S Λ YX4_layOrder (d + 3) 4 [(0, .ref 164), (1, .int (nI (2 ^ m - 1))), (2, .int (nI q.1)), (3, .int (nI k))] [] q.2 _) (fun k q => q.1 < 2 ^ m ∧ sp_pc q.1 = m - k ∧ sp_dv D N (m - k) (sp_un W N q.1) k ≤ T ∧ (∀ j x, j < k → (sp_dg D N T m W 0)[j]? = some x → q.2.1 168 j = nI x) ∧ sp_dg D N T (m - k) (sp_un W N q.1) k = (sp_dg D N T m W 0).drop k ∧ pg_fr [168] M q.2) m ?_ ?_ 0 (2 ^ m - 1, M) (Nat.zero_le _) ⟨by show 2 ^ m - 1 < 2 ^ m; omega, hpall, by show sp_dv D N m (sp_un W N (2 ^ m - 1)) 0 ≤ T; rw [hun, hT]; exact Nat.le_refl _, fun j x hj => by omega, by show sp_dg D N T m (sp_un W N (2 ^ m - 1)) 0 = _; rw [hun]; rfl, pg_fr.rfl'⟩
  · rintro ⟨w, M'⟩ ⟨a1, a2, a3, a4, a5, a6⟩
    simp only at a1 a2 a3 a4 a5 a6 ⊢
    have hl' : rc_lw M' N W m D := hl.fr (by rw [a6.1 164 (by simp)]) (a6.1 165 (by simp)) (a6.1 166 (by simp))
    have c9 : nI m ≤ nI m := nI_le (Nat.le_refl _) (by omega)
    refine sX4_layOrder_4 (Q0 := fun _ _ => True) hX ?_ ?_ ?_ ?_ ?_ ?_ <;> simp only [hl'.1]
    · refine fun _ => ⟨trivial, fun k x hx => a4 k x ?_ hx, a6⟩
      have := (List.getElem?_eq_some_iff.mp hx).1
      rw [sp_dg_len] at this
      exact this
    all_goals exact fun c => absurd c9 c
  · rintro k ⟨w, M'⟩ hk ⟨a1, a2, a3, a4, a5, a6⟩ ih
    simp only at a1 a2 a3 a4 a5 a6 ⊢
    have hl' : rc_lw M' N W m D := hl.fr (by rw [a6.1 164 (by simp)]) (a6.1 165 (by simp)) (a6.1 166 (by simp))
    have ht' : rc_lt M' N W m w D := fun u hu => by rw [a6.1 167 (by simp)]; exact ht u (by omega)
    have tall' : M'.1 167 (nI (2 ^ m - 1)).toNatClampNeg = nI T := by rw [nI_clamp (by omega), a6.1 167 (by simp)]; exact tall
    have c9 : ¬ nI m ≤ nI k := nI_ge hk (by omega)
    obtain ⟨r, hr⟩ : ∃ r, m - k = r + 1 := ⟨m - k - 1, by omega⟩
    rw [hr] at a2 a3 a5
    have hmk : m - (r + 1) = k := by omega
    -- there is one in time
    obtain ⟨i0, i1, i2⟩ : ∃ i, i < m ∧ w.testBit i = true := by
      have : 0 < fb_ct (fun k => w.testBit k) m := by
        have e : sp_rk w m = sp_pc w := sp_rk_pc (by omega) a1
        have e2 : sp_rk w m = fb_ct (fun k => w.testBit k) m := rfl
        omega
      obtain ⟨i, h1, h2⟩ := fb_ct_pos.mp this
      exact ⟨i, h1, h2⟩
    obtain ⟨c', c1', c2', c3'⟩ := sp_rk_kth (W := W) (i := i0) (b := N) (by omega)
    have hA' : (sp_un W N w).testBit c' = true := by rw [sp_un_bit, c2', c3', i2, decide_eq_true c1']; rfl
    obtain ⟨c, hc⟩ : ∃ c, sp_fst (sp_un W N w) (fun c => max (D c k) (sp_dv D N r (sp_clr (sp_un W N w) c) (k + 1))) T N = some c := by
      simp only [sp_dv] at a3
      by_cases z : sp_mn (sp_un W N w) (fun c => max (D c k) (sp_dv D N r (sp_clr (sp_un W N w) c) (k + 1))) N < 100
      · obtain ⟨c, g1, g2, g3⟩ := sp_mn_at N z
        exact sp_fst_ex g1 g2 (by rw [g3]; exact a3)
      · have := sp_mn_le (sp_un W N w) (fun c => max (D c k) (sp_dv D N r (sp_clr (sp_un W N w) c) (k + 1))) N
        have d1 := hD c' k
        have d2 := sp_dv_le (D := D) (N := N) r (sp_clr (sp_un W N w) c') (k + 1)
        exact sp_fst_ex c1' hA' (by omega)
    obtain ⟨⟨g1, g2, g3⟩, g4⟩ := sp_fst_some.mp hc
    have hWc : W.testBit c = true ∧ w.testBit (sp_rk W c) = true := by rw [sp_un_bit] at g2; simp only [Bool.and_eq_true] at g2; exact g2.2
    have rkc : sp_rk W c < m := by rw [hmW]; exact sp_rk_lt hWc.1 g1
    have hft := rc_firstInTime (S := S) (Λ := Λ) (d := d) (M := M') hN hmW a1 hT9 hD a2 hX hl' ht' (c0 := c) (by rw [hmk]; exact hc)
    have hdg : (sp_dg D N T m W 0).drop k = c :: sp_dg D N T r (sp_clr (sp_un W N w) c) (k + 1) := by
      rw [← a5]; simp only [sp_dg]; rw [hc]; rfl
    refine sX4_layOrder_4 (Q0 := fun v M1 => v = nI (sp_rk W c) ∧ M1 = M') hX ?_ ?_ ?_ ?_ ?_ ?_ <;> simp only [hl'.1]
    · exact fun c => absurd c c9
    · intro _; exact vp_in_nI (by omega) (by decide)
    · intro _; rw [tall']; exact hft
    · rintro _ v M1 ⟨rfl, rfl⟩; exact vp_in_nI (by omega) (by decide)
    · rintro _ v M1 ⟨rfl, rfl⟩; exact vp_in_nI (by omega) (by decide)
    · rintro _ v M1 ⟨rfl, rfl⟩
      have e2 : nI w &&& (((1 : Int32) <<< (nI (sp_rk W c) &&& 31)) ^^^ (-1)) = nI (sp_clr w (sp_rk W c)) := by rw [nb_pow (by omega), nb_andn]; rfl
      rw [e2, nI_1, nI_clamp (by omega), nI_clamp (by omega), hl'.2.1 c g1 hWc.1]
      have hcl := sp_clr_lt hWc.2
      have hpc := sp_pc_clr (A := w) (c := sp_rk W c) (by omega) hWc.2
      refine ih (sp_clr w (sp_rk W c), _) ⟨by show sp_clr w (sp_rk W c) < 2 ^ m; omega, by show sp_pc (sp_clr w (sp_rk W c)) = m - (k + 1); omega, ?_, fun j x hj hx => ?_, ?_, a6.trans (pg_fr.si (by simp))⟩
      · show sp_dv D N (m - (k + 1)) (sp_un W N (sp_clr w (sp_rk W c))) (k + 1) ≤ T
        rw [sp_un_clr hWc.1, show m - (k + 1) = r by omega]
        omega
      · show (pg_si M1 168 k (nI c)).1 168 j = nI x
        rw [pg_si_at]
        by_cases e : j = k
        · subst e
          rw [pk_us]
          have h1 : ((sp_dg D N T m W 0).drop j)[0]? = some x := by rw [List.getElem?_drop]; exact hx
          rw [hdg] at h1
          simp at h1
          rw [h1]
        · rw [pk_un e]; exact a4 j x (by omega) hx
      · show sp_dg D N T (m - (k + 1)) (sp_un W N (sp_clr w (sp_rk W c))) (k + 1) = _
        rw [sp_un_clr hWc.1, show m - (k + 1) = r by omega, ← List.tail_drop, hdg]
        rfl
end PGR
