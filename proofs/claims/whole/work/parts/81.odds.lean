/-! odds: the class's runs -/
section PGR
variable {S : pg_S} {Λ : pg_L} {d h l : Nat} {M : pg_M} {G : sp_G} {L s : sp_N} {E : sp_E}
theorem lo_ge1 {n : Nat} (h0 : 0 < n) (h : n < 2 ^ 63) : 0 ≤ lg_cmp (lN n) 1 := by
  unfold lg_cmp
  by_cases c1 : n = 1
  · rw [c1]; decide
  · have : lN n > (1 : Int64) := by
      show lN 1 < lN n
      rw [Int64.lt_iff_toInt_lt, lo_toInt (by decide), lo_toInt h]; omega
    rw [if_pos this]; decide
theorem rc_millionths {c n : Nat} (hc : c < L 4 0) (hn8 : n ≤ 8) (hh : h < 2 ^ 29) (hl9 : 164 ≤ l) (hF : pg_full Λ) (hL : pg_isX5 Λ l) (hs : rc_S M 3 s) (hl : rc_L M l L E) (hk : sp_okL L E) (ho : sp_okS L s h) : pg_Ev S Λ YX0_millionths (d + 4) [.ref 161, .ref l, .ref 3, .int (nI c), .int (nI n)] M (fun q M' => ∃ v, q = some (.int v) ∧ (v = nI (sp_ch L E s c n 0 (s 0 c) 0 * 1000000 / 10 ^ n) ∧ pg_fr [l + 11, l + 14, 162, 163] M M')) := by
  have h6 := hk.1
  have h41 := ho.2.1
  have g10 := hk.2.2.2.1
  have hcl : (nI c).toNatClampNeg = c := nI_clamp (by omega)
  have w9 := (ho.2.2.1 c).1
  have hT := sp_ch_le (E := E) (s := s) (c := c) g10 n 0 (s 0 c) 0
  have p8 : 10 ^ n ≤ 10 ^ 8 := Nat.pow_le_pow_right (by decide) hn8
  have p0 : 0 < 10 ^ n := Nat.pow_pos (by decide)
  have hw0 : (pg_sl2 M 162 (fun j => if j < 100 then 0 else M.2.1 162 j)).1 (3 + 1) (nI c).toNatClampNeg * 10 = nI (s 0 c * 10) := by
    rw [hcl]
    show M.1 (3 + 1) c * 10 = _
    rw [(hs.2.2.1 c (by omega)).1, show (10 : Int32) = nI 10 from rfl, pk_mul]
  refine oX0_millionths (sX0_millionths_0 hF.x0 hF.now (vp_in_nI (by omega) (by decide)) (by rw [hw0]; exact vp_in_nI (by omega) (by decide)) (fun N1 hN => ?_))
  rw [hw0, nI_clamp (by omega)] at hN
  generalize hTT : sp_ch L E s c n 0 (s 0 c) 0 = T at hT
  have f1 : pg_fr [l + 11, l + 14, 162, 163] M N1 := by rw [hN]; exact (pg_fr.sl (by simp)).trans (pg_fr.sj (by simp))
  refine pg_loop (fun i (m : pg_M) => pg_At S Λ YX0_millionths (d + 4) 29 [(0, .ref 161), (1, .ref l), (2, .ref 3), (3, .int (nI c)), (4, .int (nI n)), (5, .long (lN (10 ^ i))), (7, .int (nI i))] [] m _) (fun i m => pg_fr [l + 11, l + 14, 162, 163] M m ∧ ∃ r : Nat → Nat, (∀ j, j < 100 → m.2.1 162 j = lN (r j)) ∧ fb_sm r 100 ≤ 10 ^ i ∧ fb_sm (fun j => r j * sp_ch L E s c (n - i) i (j / 10) (j % 10)) 100 = T) n ?_ ?_ 0 N1 (Nat.zero_le _) ⟨f1, fun j => if j = s 0 c * 10 then 1 else 0, fun j hj => ?_, ?_, ?_⟩
  · rintro m ⟨m1, r, r1, r2, r3⟩
    have c9 : nI n ≤ nI n := nI_le (Nat.le_refl _) (by omega)
    have r4 : fb_sm r 100 = T := by
      rw [← r3]
      refine fb_sm_cong (fun j hj => ?_)
      rw [Nat.sub_self]; simp [sp_ch]
    refine sX0_millionths_29 (Q0 := fun _ _ => True) hF.now hL hF.x0 (fun _ => ?_) (fun c => absurd c9 c) (fun c => absurd c9 c)
    refine pg_loop (fun i (v : Int64) => pg_At S Λ YX0_millionths (d + 4) 161 [(0, .ref 161), (5, .long (lN (10 ^ n))), (7, .long v), (9, .int (nI i))] [] m _) (fun i v => v = lN (fb_sm r i)) 100 ?_ ?_ 0 0 (Nat.zero_le _) rfl
    · rintro v rfl
      have c8 : Int32.ofNat 100 ≤ nI 100 := by decide
      refine sX0_millionths_161 hF.x0 (fun _ _ => lo_ne p0 (by omega)) (fun _ _ => ⟨_, rfl, by rw [r4]; exact sp_div_T hn8 hT, m1⟩) (fun _ c => absurd (lo_ge1 p0 (by omega)) c) (fun c => absurd c8 c) (fun c => absurd c8 c)
    · rintro i v hi rfl ih
      have c8 : ¬ Int32.ofNat 100 ≤ nI i := nI_ge (b := 100) hi (by decide)
      refine sX0_millionths_161 hF.x0 (fun c => absurd c c8) (fun c => absurd c c8) (fun c => absurd c c8) (fun _ => vp_in_nI hi (by decide)) (fun _ => ?_)
      rw [nI_clamp (by omega), r1 i hi, lo_add, nI_1]
      exact ih _ (by rw [fb_sm_succ])
  · rintro i m hi ⟨m1, r, r1, r2, r3⟩ ih
    have c9 : ¬ nI n ≤ nI i := nI_ge hi (by omega)
    have sm : rc_S m 3 s := hs.keep m1 (fun j hj => by simp; omega)
    have lm : rc_L m l L E := hl.keep m1 (fun j a b c => by simp; omega)
    have pi8 : 10 ^ i ≤ 10 ^ 8 := Nat.pow_le_pow_right (by decide) (by omega)
    have rj : ∀ j, j < 100 → r j ≤ 10 ^ 8 := fun j hj => by have := fb_sm_part r hj; omega
    refine sX0_millionths_29 (Q0 := fun v M' => v = nI (sp_wind L (s 4 1 + i)) ∧ M' = m) hF.now hL hF.x0 (fun c => absurd c c9) (fun _ => ?_) ?_
    · rw [sm.2.1, nI_add]; exact pg_Ev.mono (by omega) (rc_windAt (d := 0) (by omega) hL lm hk)
    · rintro _ v M1 ⟨rfl, rfl⟩
      have f0 : pg_fr [l + 11, l + 14, 162, 163] M (pg_sl2 M1 163 (fun j => if j < 100 then 0 else M1.2.1 163 j)) := m1.trans (pg_fr.sl (by simp))
      refine pg_loop (fun x (m : pg_M) => pg_At S Λ YX0_millionths (d + 4) 60 [(0, .ref 161), (1, .ref l), (2, .ref 3), (3, .int (nI c)), (4, .int (nI n)), (5, .long (lN (10 ^ i))), (7, .int (nI i)), (8, .int (nI (sp_wind L (s 4 1 + i)))), (9, .int (nI x))] [] m _) (fun x m => pg_fr [l + 11, l + 14, 162, 163] M m ∧ (∀ j, j < 100 → m.2.1 162 j = lN (r j)) ∧ ∃ u : Nat → Nat, (∀ j, j < 100 → m.2.1 163 j = lN (u j)) ∧ ∀ f : Nat → Nat → Nat, fb_sm (fun j => u j * f (j / 10) (j % 10)) 100 = fb_sm (fun j => r j * sp_st2 L E s c i f j) x) 100 ?_ ?_ 0 _ (Nat.zero_le _) ⟨f0, fun j hj => by rw [pg_sl2_ne (by decide)]; exact r1 j hj, fun _ => 0, fun j hj => by rw [pg_sl2_at, if_pos hj]; rfl, fun f => by simp only [Nat.zero_mul]; rw [fb_sm_const]; rfl⟩
      · rintro m2 ⟨n1, n2, u, u1, u2⟩
        have c8 : Int32.ofNat 100 ≤ nI 100 := by decide
        refine sX0_millionths_60 (Q0 := fun _ => True) (Q1 := fun _ => True) hF.x0 hL (fun _ N2 hN2 => ?_) (fun c => absurd c8 c) (fun c => absurd c8 c) (fun c => absurd c8 c) (fun c => absurd c8 c) (fun c => absurd c8 c)
        rw [nI_1, show (10 : Int64) = lN 10 from rfl, lo_mul, show 10 ^ i * 10 = 10 ^ (i + 1) from (Nat.pow_succ ..).symm]
        refine ih N2 ⟨by rw [hN2]; exact n1.trans (pg_fr.sl (by simp)), u, fun j hj => ?_, ?_, ?_⟩
        · rw [hN2, pg_sl2_at]
          show va_cpy _ _ 0 0 100 j = _
          rw [pk_cpy_in (Nat.zero_le _) (by omega), show 0 + (j - 0) = j by omega]
          exact u1 j hj
        · have e1 := u2 (fun _ _ => 1)
          have e2 : fb_sm (fun j => u j * 1) 100 = fb_sm u 100 := fb_sm_cong (fun j _ => Nat.mul_one _)
          have e3 : fb_sm (fun j => r j * sp_st2 L E s c i (fun _ _ => 1) j) 100 ≤ fb_sm (fun j => r j * 10) 100 := by
            refine fb_sm_le (fun j hj => Nat.mul_le_mul_left _ ?_)
            unfold sp_st2
            have a1 := sp_chs_le (L := L) (E := E) (s := s) (c := c) (wet := j / 10) (w := j % 10) (wi := sp_wind L (s 4 1 + i)) (f := fun _ _ => 1) (B := 1) (fun _ _ => Nat.le_refl _)
            have a2 := sp_chs_le (L := L) (E := E) (s := s) (c := c) (wet := j / 10) (w := j % 10) (wi := sp_wind L (s 4 1 + i) + 3) (f := fun _ _ => 1) (B := 1) (fun _ _ => Nat.le_refl _)
            have b1 := Nat.mul_le_mul_left (10 - L 4 2) a1
            have b2 := Nat.mul_le_mul_left (L 4 2) a2
            omega
          have e4 : fb_sm (fun j => r j * 10) 100 = fb_sm r 100 * 10 := by
            have : ∀ n, fb_sm (fun j => r j * 10) n = fb_sm r n * 10 := fun n => by
              induction n with
              | zero => rfl
              | succ n ih => rw [fb_sm_succ, fb_sm_succ, ih, Nat.add_mul]
            exact this 100
          rw [e2] at e1
          rw [Nat.pow_succ]
          omega
        · have e1 := u2 (sp_ch L E s c (n - (i + 1)) (i + 1))
          rw [e1, ← r3]
          refine fb_sm_cong (fun j hj => ?_)
          rw [show n - i = (n - (i + 1)) + 1 by omega]
          rfl
      · rintro x m2 hx ⟨n1, n2, u, u1, u2⟩ ih2
        have c8 : ¬ Int32.ofNat 100 ≤ nI x := nI_ge (b := 100) hx (by decide)
        have hxc : (nI x).toNatClampNeg = x := nI_clamp (by omega)
        have rx := rj x hx
        have z : lg_cmp (m2.2.1 162 (nI x).toNatClampNeg) 0 = 0 ↔ r x = 0 := by
          rw [hxc, n2 x hx]
          unfold lg_cmp
          by_cases e : r x = 0
          · rw [e, show lN 0 = 0 from rfl]; simp
          · have : lN (r x) > (0 : Int64) := by
              show lN 0 < lN (r x)
              rw [fa_lt64, lo_toInt (by omega), lo_toInt (by omega)]; omega
            simp [this, e]
        have sm2 : rc_S m2 3 s := hs.keep n1 (fun j hj => by simp; omega)
        have lm2 : rc_L m2 l L E := hl.keep n1 (fun j a b c => by simp; omega)
        have hg14 : ∀ {m : pg_M}, rc_L m l L E → m.1 l 14 = nI (L 4 2) := fun hm => hm.2.2.2.2.1
        have t1 : (10 : Int32) - nI (L 4 2) = nI (10 - L 4 2) := by rw [show (10 : Int32) = nI 10 from rfl]; exact pk_sub g10
        refine sX0_millionths_60 (Q0 := fun M' => (∃ u' : Nat → Nat, (∀ j, j < 100 → M'.2.1 163 j = lN (u' j)) ∧ ∀ f : Nat → Nat → Nat, fb_sm (fun j => u' j * f (j / 10) (j % 10)) 100 = fb_sm (fun j => u j * f (j / 10) (j % 10)) 100 + r x * ((10 - L 4 2) * sp_chs L E s c (x / 10) (x % 10) (sp_wind L (s 4 1 + i)) f)) ∧ pg_fr [l + 11, l + 14, 163] m2 M') (Q1 := fun M' => (∃ u' : Nat → Nat, (∀ j, j < 100 → M'.2.1 163 j = lN (u' j)) ∧ ∀ f : Nat → Nat → Nat, fb_sm (fun j => u' j * f (j / 10) (j % 10)) 100 = fb_sm (fun j => u j * f (j / 10) (j % 10)) 100 + r x * sp_st2 L E s c i f x) ∧ pg_fr [l + 11, l + 14, 163] m2 M') hF.x0 hL (fun c => absurd c c8) (fun _ => vp_in_nI hx (by decide)) (fun _ q => ?_) (fun _ q => ?_) (fun _ q M3 q3 => ?_) (fun _ q M3 _ M4 q4 => ?_)
        · rw [z] at q
          rw [nI_1]
          refine ih2 m2 ⟨n1, n2, u, u1, fun f => ?_⟩
          rw [u2 f, fb_sm_succ, q]; simp
        · rw [hg14 lm2, t1]
          exact rc_goOn hc hx (by omega) hl9 hF hL sm2 lm2 hk ho (n2 x hx) u1
        · obtain ⟨⟨u', v1, v2⟩, f3⟩ := q3
          have f3' : pg_fr [l + 11, l + 14, 162, 163] M M3 := n1.trans (f3.mono (fun b hb => by simp at hb ⊢; omega))
          have lm3 : rc_L M3 l L E := hl.keep f3' (fun j a b c => by simp; omega)
          rw [hg14 lm3, show nI (sp_wind L (s 4 1 + i)) + 3 = nI (sp_wind L (s 4 1 + i) + 3) from nI_add _ 3]
          refine pg_Ev.imp ?_ (rc_goOn (r := r) hc hx g10 hl9 hF hL (hs.keep f3' (fun j hj => by simp; omega)) lm3 hk ho (by rw [f3.2.1 162 (by simp; omega)]; exact n2 x hx) v1)
          rintro q M4 ⟨e1, ⟨u'', w1, w2⟩, f4⟩
          refine ⟨e1, ⟨u'', w1, fun f => ?_⟩, f3.trans f4⟩
          rw [w2 f, v2 f]
          unfold sp_st2
          rw [Nat.mul_add]
          omega
        · obtain ⟨⟨u', v1, v2⟩, f4⟩ := q4
          rw [nI_1]
          refine ih2 M4 ⟨n1.trans (f4.mono (fun b hb => by simp at hb ⊢; omega)), fun j hj => by rw [f4.2.1 162 (by simp; omega)]; exact n2 j hj, u', v1, fun f => ?_⟩
          rw [v2 f, u2 f, fb_sm_succ]
  · rw [hN, pg_sj_at]
    by_cases e : j = s 0 c * 10
    · subst e; rw [pg_uL]; simp; rfl
    · rw [pg_uLn e, pg_sl2_at, if_pos hj]; simp [e]; rfl
  · have := fb_sm_upd (fun _ => 0) 1 (i := s 0 c * 10) (n := 100) (by omega)
    simp only [fb_sm_const] at this
    omega
  · have e2 : fb_sm (fun j => (if j = s 0 c * 10 then 1 else 0) * sp_ch L E s c (n - 0) 0 (j / 10) (j % 10)) 100 = fb_sm (fun j => if j = s 0 c * 10 then T else 0) 100 := by
      refine fb_sm_cong (fun j hj => ?_)
      by_cases e : j = s 0 c * 10
      · subst e
        rw [if_pos rfl, if_pos rfl, Nat.one_mul, Nat.sub_zero, show s 0 c * 10 / 10 = s 0 c by omega, show s 0 c * 10 % 10 = 0 by omega, hTT]
      · rw [if_neg e, if_neg e, Nat.zero_mul]
    rw [e2]
    have := fb_sm_upd (fun _ => 0) T (i := s 0 c * 10) (n := 100) (by omega)
    simp only [fb_sm_const] at this
    omega
theorem rc_odds {x y : Int32} (hh : h < 2 ^ 29) (hF : pg_full Λ) (hg : rc_G M G) (hk : sp_okG G h) : pg_Ev S Λ YX10_odds (d + 5) [.ref 0, .int x, .int y] M (fun r M' => ∃ v, r = some (.int v) ∧ (v = sp_qodds G x y ∧ rc_G M' G ∧ rc_out M M')) := by
  have h6 := hk.l.1
  have hL := hg.d.x5 hF
  have gdl := hg.d.l
  have hhas := rc_has' (S := S) (d := d + 4) (x := x) hL hg.l hk.l
  cases hi : sp_ix (G.L 4 0) x with
  | none =>
    have e : sp_qodds G x y = -1 := by unfold sp_qodds; rw [hi]
    rw [e]
    rw [hi] at hhas
    refine oX10_odds (sX10_odds_0 (Q0 := fun v M' => v = b2i (none : Option Nat).isSome ∧ M' = M) (Q1 := fun _ _ => True) hF.x10 hL hF.now hF.x0 hhas ?_ ?_ ?_ ?_ ?_ ?_ ?_)
    · rintro v M1 ⟨rfl, rfl⟩ _; exact ⟨_, rfl, rfl, hg, rc_out.rfl'⟩
    all_goals (rintro v M1 ⟨rfl, rfl⟩ c; exact absurd rfl c)
  | some c =>
    obtain ⟨hc, rfl⟩ := (sp_ix_some (by omega)).mp hi
    have hcl : (nI c).toNatClampNeg = c := nI_clamp (by omega)
    rw [hi] at hhas
    have hcs : M.1 6 (nI c).toNatClampNeg = nI (G.s 2 c) := by rw [hcl]; exact (hg.s.2.2.1 c (by omega)).2.2
    have h28 := sp_lt8 (c := c) hk.s.1
    have hz : nI (G.s 2 c) = 0 ↔ G.s 2 c = 0 := by rw [← nI_0, nI_eq (by omega) (by omega)]
    have q0 : ∀ n, sp_ix 9 y = some n → sp_qodds G (nI c) y = if G.s 2 c = 0 ∨ n = 0 then -1 else nI (sp_ch G.L G.E G.s c n 0 (G.s 0 c) 0 * 1000000 / 10 ^ n) := fun n e => by unfold sp_qodds; rw [hi, e]
    have qn : sp_ix 9 y = none → sp_qodds G (nI c) y = -1 := fun e => by unfold sp_qodds; rw [hi, e]
    have same : sp_qodds G (nI c) y = -1 → ∃ v, (some (Value.int (-1)) = some (Value.int v)) ∧ (v = sp_qodds G (nI c) y ∧ rc_G M G ∧ rc_out M M) := fun q => ⟨-1, rfl, q.symm, hg, rc_out.rfl'⟩
    have bad : (y < 1 ∨ ¬ y ≤ 8) → sp_qodds G (nI c) y = -1 := fun q => by
      cases hy : sp_ix 9 y with
      | none => exact qn hy
      | some n =>
        obtain ⟨a, rfl⟩ := (sp_ix_some (by decide)).mp hy
        rw [q0 n hy]
        rcases q with q | q
        · rw [show (1 : Int32) = nI 1 from rfl, nI_ltI (by omega) (by omega)] at q
          rw [if_pos (Or.inr (by omega))]
        · rw [show (8 : Int32) = nI 8 from rfl, nI_leI (by omega) (by omega)] at q; omega
    have good : ¬ y < 1 → y ≤ 8 → ∃ n, 0 < n ∧ n < 9 ∧ y = nI n := fun a b => by
      have a0 : ¬ y < 0 := fun q => a (by rw [fa_lt] at q ⊢; have e0 : (0 : Int32).toInt = 0 := rfl; have e1 : (1 : Int32).toInt = 1 := rfl; omega)
      obtain ⟨k, hk1, rfl⟩ := nI_of a0
      rw [show (1 : Int32) = nI 1 from rfl, nI_ltI (by omega) (by omega)] at a
      rw [show (8 : Int32) = nI 8 from rfl, nI_leI (by omega) (by omega)] at b
      exact ⟨k, by omega, by omega, rfl⟩
    refine oX10_odds (sX10_odds_0 (Q0 := fun v M' => v = b2i (some c).isSome ∧ M' = M) (Q1 := fun v M' => v = sp_qodds G (nI c) y ∧ pg_fr [M.2.2 0 8 + 11, M.2.2 0 8 + 14, 162, 163] M M') hF.x10 hL hF.now hF.x0 hhas ?_ ?_ ?_ ?_ ?_ ?_ ?_)
    · rintro v M1 ⟨rfl, rfl⟩ c; exact absurd c (show ¬ (1 : Int32) = 0 by decide)
    · rintro v M1 ⟨rfl, rfl⟩ _; exact vp_in_nI (by omega) (by decide)
    · rintro v M1 ⟨rfl, rfl⟩ _ q
      rw [hcs, hz] at q
      refine same ?_
      cases hy : sp_ix 9 y with
      | none => exact qn hy
      | some n => rw [q0 n hy, if_pos (Or.inl q)]
    · rintro v M1 ⟨rfl, rfl⟩ _ _ q; exact same (bad (Or.inl q))
    · rintro v M1 ⟨rfl, rfl⟩ _ q a b
      rw [hcs, hz] at q
      obtain ⟨n, n0, n9, rfl⟩ := good a b
      rw [q0 n (sp_ix_nI (by decide) n9), if_neg (fun z => z.elim q (fun e => Nat.ne_of_gt n0 e))]
      exact rc_millionths hc (by omega) hh (by omega) hF hL hg.s hg.l hk.l hk.s.1
    · rintro v M1 ⟨rfl, rfl⟩ _ _ _ _ v2 M2 ⟨rfl, fr⟩
      have p : pg_pf rc_q M1 M2 := pg_pf.of fr (fun b hb => by simp at hb; unfold rc_q; omega)
      exact ⟨_, rfl, rfl, hg.q p, rc_out.q p⟩
    · rintro v M1 ⟨rfl, rfl⟩ _ _ _ q; exact same (bad (Or.inr q))
end PGR
