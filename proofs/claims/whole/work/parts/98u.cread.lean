/-! LINES: the class reads clashes and rows -/
section PGR
variable {S : pg_S} {Λ : pg_L} {d k9 l9 : Nat} {M : pg_M} {tp : List Nat} {X9 : rd_X}
theorem rc_clashTold {a9 b9 : Nat} (ha : a9 < 6) (hb : b9 < 6) (hne : a9 ≠ b9) (h5 : pg_isX5 Λ l9) (ho : rd_ok X9) (hx : rc_rX M l9 X9) : pg_Ev S Λ YX5_clashTold (d + 1) [.ref l9, .int (nI a9), .int (nI b9)] M (fun r M' => ∃ v, r = some (.int v) ∧ (v = b2i (decide (X9.1 6 (6 * a9 + b9) = 1)) ∧ M' = M)) := by
  have emi := pg_min_nI (a := a9) (b := b9) (by omega) (by omega)
  have ema := pg_max_nI (a := a9) (b := b9) (by omega) (by omega)
  have hcl : (nI (min a9 b9)).toNatClampNeg = min a9 b9 := nI_clamp (by omega)
  have hrow := hx.1.2.2.2.2.2.2.2.1 (min a9 b9) (by omega)
  have hlt := sp_mk_lt (fun e => decide (min a9 b9 < e) && decide (X9.1 6 (6 * min a9 b9 + e) = 1)) 6
  have hbit : (sp_mk (fun e => decide (min a9 b9 < e) && decide (X9.1 6 (6 * min a9 b9 + e) = 1)) 6).testBit (max a9 b9) = decide (X9.1 6 (6 * a9 + b9) = 1) := by
    rw [sp_mk_bit, decide_eq_true (show max a9 b9 < 6 by omega), decide_eq_true (show min a9 b9 < max a9 b9 by omega), Bool.true_and, Bool.true_and]
    rcases Nat.lt_or_ge a9 b9 with z9 | z9
    · rw [Nat.min_eq_left (by omega), Nat.max_eq_right (by omega)]
    · rw [Nat.min_eq_right (by omega), Nat.max_eq_left (by omega), ho.2.2.1.1 b9 a9 hb ha]
  refine oX5_clashTold (sX5_clashTold_0 h5 (by rw [emi]; exact vp_in_nI (by omega) (by decide)) (fun q9 => ⟨_, rfl, ?_, rfl⟩) (fun q9 => ⟨_, rfl, ?_, rfl⟩))
  · rw [emi, ema, hcl, hrow, nb_bit (by omega) (by omega), hbit] at q9
    rw [q9]; rfl
  · rw [emi, ema, hcl, hrow, nb_bit (by omega) (by omega), hbit, Bool.not_eq_false] at q9
    rw [q9]; rfl
theorem rc_addClash {a9 b9 : Nat} (hl : 3 ≤ l9) (ha : a9 < 6) (hb : b9 < 6) (hne : a9 ≠ b9) (h5 : pg_isX5 Λ l9) (hx : rc_rX M l9 X9) : pg_Ev S Λ YX5_addClash (d + 1) [.ref l9, .int (nI a9), .int (nI b9)] M (fun r M' => r = none ∧ (rc_rX M' l9 (rd_addx X9 a9 b9) ∧ pg_fr [l9, l9 + 6] M M')) := by
  have emi := pg_min_nI (a := a9) (b := b9) (by omega) (by omega)
  have ema := pg_max_nI (a := a9) (b := b9) (by omega) (by omega)
  have hcl : (nI (min a9 b9)).toNatClampNeg = min a9 b9 := nI_clamp (by omega)
  obtain ⟨⟨a1, a2, a3, a4, a5, a6, a7, a8, a9', a10, a11, a12⟩, b1, b2⟩ := hx
  refine oX5_addClash (sX5_addClash_0 h5 (by rw [emi]; exact vp_in_nI (by omega) (by decide)) ?_)
  intro Nq1 eq1
  rw [emi, ema, hcl, a8 (min a9 b9) (by omega), nb_set (by omega)] at eq1
  have lo : ∀ x9 y9, x9 ≠ 6 → (x9 = 4 → y9 ≠ 5) → (rd_addx X9 a9 b9).1 x9 y9 = X9.1 x9 y9 := fun x9 y9 z1 z2 => by
    simp only [rd_addx, sp_up]
    rw [if_neg (fun c => z2 c.1 c.2), if_neg (fun c => z1 c.1), if_neg (fun c => z1 c.1)]
  have l6 : ∀ p9, (rd_addx X9 a9 b9).1 6 p9 = if p9 = 6 * b9 + a9 then 1 else if p9 = 6 * a9 + b9 then 1 else X9.1 6 p9 := fun p9 => by
    simp [rd_addx, sp_up]
  have l45 : (rd_addx X9 a9 b9).1 4 5 = X9.1 4 5 + 1 := by simp [rd_addx, sp_up]
  have l40 : (rd_addx X9 a9 b9).1 4 0 = X9.1 4 0 := lo 4 0 (by decide) (by decide)
  have ne : ∀ b8, b8 ≠ l9 → b8 ≠ l9 + 6 → (pg_si Nq1 l9 15 ((Nq1.1 l9 15) + 1)).1 b8 = M.1 b8 := fun b8 z1 z2 => by
    rw [pg_si_ne z1, eq1, pg_si_ne z2]
  have r0 : Nq1.1 l9 = M.1 l9 := by rw [eq1, pg_si_ne (by omega)]
  have n0 : ∀ j9, j9 ≠ 15 → (pg_si Nq1 l9 15 ((Nq1.1 l9 15) + 1)).1 l9 j9 = M.1 l9 j9 := fun j9 hj => by rw [pg_si_at, pk_un hj, r0]
  refine ⟨rfl, ⟨⟨?_, ?_, ?_, ?_, ?_, ?_, fun c9 hc => ?_, fun c9 hc => ?_, fun p9 hp => ?_, fun j9 hj => ?_, a11.fr (ne _ (by omega) (by omega)) (ne _ (by omega) (by omega)), a12.fr (ne _ (by omega) (by omega)) (ne _ (by omega) (by omega))⟩, fun c9 hc => ?_, ?_⟩, ?_⟩
  · rw [n0 10 (by decide), l40]; exact a1
  · rw [n0 11 (by decide), lo 4 4 (by decide) (by decide)]; exact a2
  · rw [n0 12 (by decide), lo 4 3 (by decide) (by decide)]; exact a3
  · rw [n0 13 (by decide), lo 4 1 (by decide) (by decide)]; exact a4
  · rw [n0 14 (by decide), lo 4 2 (by decide) (by decide)]; exact a5
  · rw [pg_si_at, pk_us, r0, a6, nI_1, l45]
  · rw [l40] at hc
    rw [ne _ (by omega) (by omega), ne _ (by omega) (by omega), ne _ (by omega) (by omega), ne _ (by omega) (by omega), lo 0 c9 (by decide) (by intro c; cases c), lo 1 c9 (by decide) (by intro c; cases c), lo 2 c9 (by decide) (by intro c; cases c), lo 3 c9 (by decide) (by intro c; cases c)]
    exact a7 c9 hc
  · rw [pg_si_ne (by omega), eq1, pg_si_at]
    by_cases z9 : c9 = min a9 b9
    · rw [z9, pk_us]
      congr 1
      apply Nat.eq_of_testBit_eq
      intro i9
      rw [Nat.testBit_or, sp_mk_bit, sp_mk_bit, Nat.testBit_two_pow, l6]
      by_cases h6 : i9 < 6
      · by_cases h7 : min a9 b9 < i9
        · by_cases h8 : max a9 b9 = i9
          · have e9 : (if 6 * min a9 b9 + i9 = 6 * b9 + a9 then 1 else if 6 * min a9 b9 + i9 = 6 * a9 + b9 then 1 else X9.1 6 (6 * min a9 b9 + i9)) = 1 := by
              repeat' split
              all_goals omega
            rw [e9]
            simp [h6, h7, h8]
          · have e9 : (if 6 * min a9 b9 + i9 = 6 * b9 + a9 then 1 else if 6 * min a9 b9 + i9 = 6 * a9 + b9 then 1 else X9.1 6 (6 * min a9 b9 + i9)) = X9.1 6 (6 * min a9 b9 + i9) := by
              rw [if_neg (by omega), if_neg (by omega)]
            rw [e9]
            simp [h8]
        · have h8 : ¬ max a9 b9 = i9 := by omega
          simp [h7, h8]
      · have h8 : ¬ max a9 b9 = i9 := by omega
        simp [h6, h8]
    · rw [pk_un z9, a8 c9 hc]
      congr 1
      apply sp_mk_cong
      intro i9 hi
      rw [l6]
      by_cases h7 : c9 < i9
      · rw [if_neg (by omega), if_neg (by omega)]
      · rw [decide_eq_false h7, Bool.false_and, Bool.false_and]
  · rw [lo 4 4 (by decide) (by decide)] at hp
    rw [ne _ (by omega) (by omega), lo 7 p9 (by decide) (by intro c; cases c)]; exact a9' p9 hp
  · rw [lo 4 3 (by decide) (by decide)] at hj
    rw [ne _ (by omega) (by omega), lo 5 j9 (by decide) (by intro c; cases c)]; exact a10 j9 hj
  · rw [l40] at hc
    rw [eq1]; exact b1 c9 hc
  · rw [ne 1 (by omega) (by omega)]; exact b2
  · rw [eq1]; exact (pg_fr.si (by simp)).trans (pg_fr.si (by simp))
theorem rc_readClash (hl : 3 ≤ l9) (hX : pg_isX7 Λ) (h5 : pg_isX5 Λ l9) (hk : tk_ok tp) (ho : rd_ok X9) (hR : rc_R M tp (.ok k9)) (hx : rc_rX M l9 X9) : pg_Ev S Λ YX7_readClash (d + 5) [.ref 1, .ref l9] M (fun q M' => q = none ∧ rc_lp l9 tp M (rd_clash tp k9 X9) M') := by
  have h6 := ho.1.1
  have st1 : ∀ Mq1, rc_R Mq1 tp (.ok (k9 + 1)) ∧ rc_rf M Mq1 → pg_Ev S Λ YX7_readNamed (d + 4) [.ref 1, .ref l9] Mq1 (fun r M' => ∃ v, r = some (.int v) ∧ rc_v tp M (rd_told tp X9.2.2.1 (X9.1 4 0) (k9 + 1)) (k9 + 2) v M') := by
    rintro Mq1 ⟨g1, g2⟩
    have hx2 := hx.rf g2 hl
    refine pg_Ev.imp ?_ (rc_readNamed (S := S) (d := d) hX h5 hk ho g1 hx2.1.1 hx2.2.1)
    rintro q9 M9 ⟨v9, y1, y2, y3⟩
    exact ⟨v9, y1, g2.trans y2, y3⟩
  have n1 := pg_Ev.mono (d' := d + 4) (by omega) (rc_rnext (S := S) (Λ := Λ) (d := d) hX hk hR)
  cases ha : rd_told tp X9.2.2.1 (X9.1 4 0) (k9 + 1) with
  | error e9 =>
    rw [ha] at st1
    have er : rd_clash tp k9 X9 = .error e9 := by unfold rd_clash; rw [ha, rd_b_er]
    have f9 : ∀ (v9 : Int32) Mq, rc_v tp M (.error e9) (k9 + 2) v9 Mq → ¬ Mq.1 1 9 = 0 := fun v9 Mq g9 => g9.2.f1
    refine oX7_readClash (sX7_readClash_0 (Q0 := fun M' => rc_R M' tp (.ok (k9 + 1)) ∧ rc_rf M M') (Q1 := fun v M' => rc_v tp M (.error e9) (k9 + 2) v M') (Q2 := fun _ _ => True) (Q3 := fun _ => True) (Q4 := fun _ => True) (Q5 := fun _ => True) (Q6 := fun _ => True) (Q7 := fun _ => True) (Q8 := fun _ _ => True) (Q9 := fun _ => True) (Q10 := fun _ => True) (Q11 := fun _ => True) (Q12 := fun _ => True) (Q13 := fun _ => True) hX h5 n1 st1 ?_ ?_ ?_ ?_ ?_ ?_ ?_ ?_ ?_ ?_ ?_ ?_ ?_ ?_ ?_ ?_ ?_ ?_ ?_ ?_ ?_)
    all_goals first
      | (intro Mq1 _ v9 Mq2 g9 c; exact absurd c (f9 v9 Mq2 g9))
      | skip
    rintro Mq1 _ v9 Mq2 g9 _
    rw [er]
    exact ⟨rfl, g9.1.lf, g9.2⟩
  | ok a9 =>
    rw [ha] at st1
    have la := rd_told_ok ha
    have st2 : ∀ v9 Mq2, rc_v tp M (.ok a9) (k9 + 2) v9 Mq2 → pg_Ev S Λ YX7_namedHere (d + 4) [.ref 1, .ref l9] Mq2 (fun r M' => ∃ v, r = some (.int v) ∧ rc_v tp M (rd_told tp X9.2.2.1 (X9.1 4 0) (k9 + 2)) (k9 + 2) v M') := by
      rintro v9 Mq2 ⟨g1, g2, _⟩
      have hx2 := hx.rf g1 hl
      refine pg_Ev.mono (by omega) (pg_Ev.imp ?_ (rc_namedHere (S := S) (d := d) hX h5 hk ho g2 hx2.1.1 hx2.2.1))
      rintro q9 M9 ⟨v9, y1, y2, y3⟩
      exact ⟨v9, y1, g1.trans y2, y3⟩
    have nxe : ∀ e9 Mq, rc_R Mq tp (.error e9) ∧ rc_rf M Mq → pg_Ev S Λ YX7_next (d + 4) [.ref 1] Mq (fun r M' => r = none ∧ (rc_R M' tp (.error e9) ∧ rc_rf M M')) := by
      rintro e9 Mq ⟨g1, g2⟩
      refine pg_Ev.imp ?_ (rc_rnext (S := S) (d := d + 1) hX hk g1)
      rintro q9 M9 ⟨y1, y2, y3⟩
      exact ⟨y1, y2, g2.trans y3⟩
    have f0 : ∀ v9 Mq2, rc_v tp M (.ok a9) (k9 + 2) v9 Mq2 → Mq2.1 1 9 = 0 := fun v9 Mq2 g9 => g9.2.1.f0
    cases hb : rd_told tp X9.2.2.1 (X9.1 4 0) (k9 + 2) with
    | error e9 =>
      rw [hb] at st2
      have er : rd_clash tp k9 X9 = .error e9 := by unfold rd_clash; rw [ha, rd_b_ok, hb, rd_b_er]
      have f9 : ∀ (v9 : Int32) Mq, rc_v tp M (.error e9) (k9 + 2) v9 Mq → ¬ Mq.1 1 9 = 0 := fun v9 Mq g9 => g9.2.f1
      refine oX7_readClash (sX7_readClash_0 (Q0 := fun M' => rc_R M' tp (.ok (k9 + 1)) ∧ rc_rf M M') (Q1 := fun v M' => rc_v tp M (.ok a9) (k9 + 2) v M') (Q2 := fun v M' => rc_v tp M (.error e9) (k9 + 2) v M') (Q3 := fun M' => rc_R M' tp (.error e9) ∧ rc_rf M M') (Q4 := fun _ => True) (Q5 := fun _ => True) (Q6 := fun _ => True) (Q7 := fun _ => True) (Q8 := fun _ _ => True) (Q9 := fun _ => True) (Q10 := fun _ => True) (Q11 := fun _ => True) (Q12 := fun _ => True) (Q13 := fun _ => True) hX h5 n1 st1 (fun Mq1 _ v9 Mq2 g9 _ => st2 v9 Mq2 g9) (fun Mq1 _ v9 Mq2 _ _ v8 Mq3 g9 _ => nxe e9 Mq3 ⟨g9.2, g9.1⟩) (fun Mq1 _ v9 Mq2 _ _ v8 Mq3 _ _ Mq4 g9 _ => ⟨rfl, by rw [er]; exact ⟨g9.2.lf, g9.1⟩⟩) ?_ ?_ ?_ ?_ ?_ ?_ ?_ ?_ ?_ ?_ ?_ ?_ ?_ ?_ ?_ ?_ ?_ ?_)
      all_goals first
        | (intro Mq1 _ v9 Mq2 _ _ v8 Mq3 g9 c; exact absurd c (f9 v8 Mq3 g9))
        | (intro Mq1 _ v9 Mq2 _ _ v8 Mq3 _ _ Mq4 g9 c; exact absurd c g9.1.f1)
        | (intro Mq1 _ v9 Mq2 g9 c; exact absurd (f0 v9 Mq2 g9) c)
    | ok b9 =>
      rw [hb] at st2
      have lb := rd_told_ok hb
      have f1 : ∀ v9 Mq2, rc_v tp M (.ok b9) (k9 + 2) v9 Mq2 → Mq2.1 1 9 = 0 := fun v9 Mq2 g9 => g9.2.1.f0
      have ieq : ∀ (v9 v8 : Int32) Mq2 Mq3, rc_v tp M (.ok a9) (k9 + 2) v9 Mq2 → rc_v tp M (.ok b9) (k9 + 2) v8 Mq3 → (v9 = v8 ↔ a9 = b9) := fun v9 v8 Mq2 Mq3 g1 g2 => by
        rw [g1.2.2, g2.2.2, nI_eq (by omega) (by omega)]
      have fai : ∀ Mq3, rc_R Mq3 tp (.ok (k9 + 2)) → rc_rf M Mq3 → pg_Ev S Λ YX7_fail (d + 4) [.ref 1, .int 3] Mq3 (fun r M' => r = none ∧ (rc_R M' tp (.error (3 + 16 * tk_place tp (k9 + 2))) ∧ rc_rf M M')) := fun Mq3 g1 g2 => by
        refine pg_Ev.imp ?_ (rc_rfail (S := S) (d := d + 4) (n9 := 3) (by omega) (by omega) hX hk g1)
        rintro q7 M9 ⟨y1, y2, y3⟩
        exact ⟨y1, y2, g2.trans y3⟩
      by_cases hab : a9 = b9
      · have er : rd_clash tp k9 X9 = .error (3 + 16 * tk_place tp (k9 + 2)) := by unfold rd_clash; rw [ha, rd_b_ok, hb, rd_b_ok, if_pos (Or.inl hab)]; rfl
        refine oX7_readClash (sX7_readClash_0 (Q0 := fun M' => rc_R M' tp (.ok (k9 + 1)) ∧ rc_rf M M') (Q1 := fun v M' => rc_v tp M (.ok a9) (k9 + 2) v M') (Q2 := fun v M' => rc_v tp M (.ok b9) (k9 + 2) v M') (Q3 := fun _ => True) (Q4 := fun _ => True) (Q5 := fun M' => rc_R M' tp (.error (3 + 16 * tk_place tp (k9 + 2))) ∧ rc_rf M M') (Q6 := fun M' => rc_R M' tp (.error (3 + 16 * tk_place tp (k9 + 2))) ∧ rc_rf M M') (Q7 := fun _ => True) (Q8 := fun _ _ => True) (Q9 := fun _ => True) (Q10 := fun _ => True) (Q11 := fun _ => True) (Q12 := fun _ => True) (Q13 := fun _ => True) hX h5 n1 st1 (fun Mq1 _ v9 Mq2 g9 _ => st2 v9 Mq2 g9) ?_ ?_ ?_ ?_ (fun Mq1 _ v9 Mq2 _ _ v8 Mq3 g9 _ _ => fai Mq3 g9.2.1 g9.1) (fun Mq1 _ v9 Mq2 _ _ v8 Mq3 _ _ _ Mq4 g9 => nxe _ Mq4 g9) (fun Mq1 _ v9 Mq2 _ _ v8 Mq3 _ _ _ Mq4 _ Mq5 g9 _ => ⟨rfl, by rw [er]; exact ⟨g9.2.lf, g9.1⟩⟩) ?_ ?_ ?_ ?_ ?_ ?_ ?_ ?_ ?_ ?_ ?_ ?_ ?_)
        all_goals first
          | (intro Mq1 _ v9 Mq2 g9 _ v8 Mq3 g8 _ c; exact absurd ((ieq v9 v8 Mq2 Mq3 g9 g8).mpr hab) c)
          | (intro Mq1 _ v9 Mq2 _ _ v8 Mq3 g9 c; exact absurd (f1 v8 Mq3 g9) c)
          | (intro Mq1 _ v9 Mq2 _ _ v8 Mq3 _ _ _ Mq4 _ Mq5 g9 c; exact absurd c g9.1.f1)
          | (intro Mq1 _ v9 Mq2 g9 c; exact absurd (f0 v9 Mq2 g9) c)
      · have tol : ∀ v9 v8 Mq2 Mq3, rc_v tp M (.ok a9) (k9 + 2) v9 Mq2 → rc_v tp M (.ok b9) (k9 + 2) v8 Mq3 → pg_Ev S Λ YX5_clashTold (d + 4) [.ref l9, .int v9, .int v8] Mq3 (fun r M' => ∃ v, r = some (.int v) ∧ (v = b2i (decide (X9.1 6 (6 * a9 + b9) = 1)) ∧ rc_R M' tp (.ok (k9 + 2)) ∧ rc_rf M M')) := by
          intro v9 v8 Mq2 Mq3 g1 g2
          rw [g1.2.2, g2.2.2]
          refine pg_Ev.imp ?_ (rc_clashTold (S := S) (d := d + 3) (a9 := a9) (b9 := b9) (by omega) (by omega) hab h5 ho (hx.rf g2.1 hl))
          rintro q9 M9 ⟨v7, y1, y2, y3⟩
          exact ⟨v7, y1, y2, by rw [y3]; exact g2.2.1, by rw [y3]; exact g2.1⟩
        by_cases ht : X9.1 6 (6 * a9 + b9) = 1
        · have er : rd_clash tp k9 X9 = .error (3 + 16 * tk_place tp (k9 + 2)) := by unfold rd_clash; rw [ha, rd_b_ok, hb, rd_b_ok, if_pos (Or.inr ht)]; rfl
          rw [decide_eq_true ht] at tol
          refine oX7_readClash (sX7_readClash_0 (Q0 := fun M' => rc_R M' tp (.ok (k9 + 1)) ∧ rc_rf M M') (Q1 := fun v M' => rc_v tp M (.ok a9) (k9 + 2) v M') (Q2 := fun v M' => rc_v tp M (.ok b9) (k9 + 2) v M') (Q3 := fun _ => True) (Q4 := fun _ => True) (Q5 := fun _ => True) (Q6 := fun _ => True) (Q7 := fun _ => True) (Q8 := fun v M' => v = b2i true ∧ rc_R M' tp (.ok (k9 + 2)) ∧ rc_rf M M') (Q9 := fun _ => True) (Q10 := fun _ => True) (Q11 := fun M' => rc_R M' tp (.error (3 + 16 * tk_place tp (k9 + 2))) ∧ rc_rf M M') (Q12 := fun M' => rc_R M' tp (.error (3 + 16 * tk_place tp (k9 + 2))) ∧ rc_rf M M') (Q13 := fun _ => True) hX h5 n1 st1 (fun Mq1 _ v9 Mq2 g9 _ => st2 v9 Mq2 g9) ?_ ?_ ?_ ?_ ?_ ?_ ?_ ?_ ?_ (fun Mq1 _ v9 Mq2 g9 _ v8 Mq3 g8 _ _ => tol v9 v8 Mq2 Mq3 g9 g8) ?_ ?_ ?_ ?_ (fun Mq1 _ v9 Mq2 _ _ v8 Mq3 _ _ _ v7 Mq4 g9 _ => fai Mq4 g9.2.1 g9.2.2) (fun Mq1 _ v9 Mq2 _ _ v8 Mq3 _ _ _ v7 Mq4 _ _ Mq5 g9 => nxe _ Mq5 g9) (fun Mq1 _ v9 Mq2 _ _ v8 Mq3 _ _ _ v7 Mq4 _ _ Mq5 _ Mq6 g9 _ => ⟨rfl, by rw [er]; exact ⟨g9.2.lf, g9.1⟩⟩) ?_ ?_ ?_)
          all_goals first
            | (intro Mq1 _ v9 Mq2 g9 _ v8 Mq3 g8 _ c; exact absurd ((ieq v9 v8 Mq2 Mq3 g9 g8).mp c) hab)
            | (intro Mq1 _ v9 Mq2 _ _ v8 Mq3 _ _ _ v7 Mq4 g9 c; rw [g9.1] at c; exact absurd c (by decide))
            | (intro Mq1 _ v9 Mq2 _ _ v8 Mq3 g9 c; exact absurd (f1 v8 Mq3 g9) c)
            | (intro Mq1 _ v9 Mq2 _ _ v8 Mq3 _ _ _ v7 Mq4 _ _ Mq5 _ Mq6 g9 c; exact absurd c g9.1.f1)
            | (intro Mq1 _ v9 Mq2 g9 c; exact absurd (f0 v9 Mq2 g9) c)
        · have er : rd_clash tp k9 X9 = .ok (k9 + 3, rd_addx X9 a9 b9) := by unfold rd_clash; rw [ha, rd_b_ok, hb, rd_b_ok, if_neg (by rintro (c | c); exact hab c; exact ht c)]
          rw [decide_eq_false ht] at tol
          have nxk : ∀ Mq4, rc_R Mq4 tp (.ok (k9 + 2)) → rc_rf M Mq4 → pg_Ev S Λ YX7_next (d + 4) [.ref 1] Mq4 (fun r M' => r = none ∧ (rc_R M' tp (.ok (k9 + 3)) ∧ rc_rf M M')) := by
            intro Mq4 g1 g2
            refine pg_Ev.imp ?_ (rc_rnext (S := S) (d := d + 1) hX hk g1)
            rintro q9 M9 ⟨y1, y2, y3⟩
            exact ⟨y1, y2, g2.trans y3⟩
          have ad : ∀ v9 v8 Mq2 Mq3 Mq5, rc_v tp M (.ok a9) (k9 + 2) v9 Mq2 → rc_v tp M (.ok b9) (k9 + 2) v8 Mq3 → rc_R Mq5 tp (.ok (k9 + 3)) ∧ rc_rf M Mq5 → pg_Ev S Λ YX5_addClash (d + 4) [.ref l9, .int v9, .int v8] Mq5 (fun r M' => r = none ∧ rc_lp l9 tp M (rd_clash tp k9 X9) M') := by
            intro v9 v8 Mq2 Mq3 Mq5 g1 g2 g3
            rw [g1.2.2, g2.2.2]
            refine pg_Ev.imp ?_ (rc_addClash (S := S) (d := d + 3) (a9 := a9) (b9 := b9) hl (by omega) (by omega) hab h5 (hx.rf g3.2 hl))
            rintro q9 M9 ⟨y1, y2, y3⟩
            refine ⟨y1, g3.2.lf.trans (pg_pf.of y3 (fun b8 hb8 => by simp at hb8; unfold rc_lq; omega)), ?_⟩
            rw [er]
            exact ⟨g3.1.fr9 (y3.1 1 (by simp; omega)) (y3.1 2 (by simp; omega)) (y3.2.1 1 (by simp; omega)), y2⟩
          refine oX7_readClash (sX7_readClash_0 (Q0 := fun M' => rc_R M' tp (.ok (k9 + 1)) ∧ rc_rf M M') (Q1 := fun v M' => rc_v tp M (.ok a9) (k9 + 2) v M') (Q2 := fun v M' => rc_v tp M (.ok b9) (k9 + 2) v M') (Q3 := fun _ => True) (Q4 := fun _ => True) (Q5 := fun _ => True) (Q6 := fun _ => True) (Q7 := fun _ => True) (Q8 := fun v M' => v = b2i false ∧ rc_R M' tp (.ok (k9 + 2)) ∧ rc_rf M M') (Q9 := fun M' => rc_R M' tp (.ok (k9 + 3)) ∧ rc_rf M M') (Q10 := fun M' => rc_lp l9 tp M (rd_clash tp k9 X9) M') (Q11 := fun _ => True) (Q12 := fun _ => True) (Q13 := fun _ => True) hX h5 n1 st1 (fun Mq1 _ v9 Mq2 g9 _ => st2 v9 Mq2 g9) ?_ ?_ ?_ ?_ ?_ ?_ ?_ ?_ ?_ (fun Mq1 _ v9 Mq2 g9 _ v8 Mq3 g8 _ _ => tol v9 v8 Mq2 Mq3 g9 g8) (fun Mq1 _ v9 Mq2 _ _ v8 Mq3 _ _ _ v7 Mq4 g9 _ => nxk Mq4 g9.2.1 g9.2.2) ?_ (fun Mq1 _ v9 Mq2 g9 _ v8 Mq3 g8 _ _ v7 Mq4 _ _ Mq5 g7 _ => ad v9 v8 Mq2 Mq3 Mq5 g9 g8 g7) (fun Mq1 _ v9 Mq2 _ _ v8 Mq3 _ _ _ v7 Mq4 _ _ Mq5 _ _ Mq6 g9 => ⟨rfl, g9⟩) ?_ ?_ ?_ ?_ ?_ ?_)
          all_goals first
            | (intro Mq1 _ v9 Mq2 g9 _ v8 Mq3 g8 _ c; exact absurd ((ieq v9 v8 Mq2 Mq3 g9 g8).mp c) hab)
            | (intro Mq1 _ v9 Mq2 _ _ v8 Mq3 _ _ _ v7 Mq4 g9 c; exact absurd g9.1 c)
            | (intro Mq1 _ v9 Mq2 _ _ v8 Mq3 g9 c; exact absurd (f1 v8 Mq3 g9) c)
            | (intro Mq1 _ v9 Mq2 _ _ v8 Mq3 _ _ _ v7 Mq4 _ _ Mq5 g9 c; exact absurd g9.1.f0 c)
            | (intro Mq1 _ v9 Mq2 g9 c; exact absurd (f0 v9 Mq2 g9) c)
end PGR
