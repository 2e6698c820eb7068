/-! LINES: the reference reads clashes and rows -/
section PGR
variable {S : pg_S} {Λ : pg_L} {d n9 k9 a9 : Nat} {M : pg_M} {tp : List Nat} {X9 : rd_X}
theorem rm_rX.clash {M : pg_M} {x9 y9 : Nat} (h6 : X9.1 4 0 ≤ 6) (hx9 : x9 < 6) (hy9 : y9 < 6) (hx : rm_rX M a9 X9) : rm_rX (pg_si (pg_si (pg_si M 213 (132 + 6 * x9 + y9) 1) 213 (132 + 6 * y9 + x9) 1) 213 105 (nI (X9.1 4 5 + 1))) a9 (rd_addx X9 x9 y9) := by
  obtain ⟨⟨a1, a2, a3, a4, a5, a6, a7, a8, a9', a10, a11, a12, a13, a14⟩, b1, b2⟩ := hx
  have ne : ∀ j9, j9 ≠ 105 → j9 ≠ 132 + 6 * x9 + y9 → j9 ≠ 132 + 6 * y9 + x9 → (pg_si (pg_si (pg_si M 213 (132 + 6 * x9 + y9) 1) 213 (132 + 6 * y9 + x9) 1) 213 105 (nI (X9.1 4 5 + 1))).1 213 j9 = M.1 213 j9 := fun j9 h1 h2 h3 => by rw [pg_si_at, pk_un h1, pg_si_at, pk_un h3, pg_si_at, pk_un h2]
  have no : ∀ b9, b9 ≠ 213 → (pg_si (pg_si (pg_si M 213 (132 + 6 * x9 + y9) 1) 213 (132 + 6 * y9 + x9) 1) 213 105 (nI (X9.1 4 5 + 1))).1 b9 = M.1 b9 := fun b9 hb => by rw [pg_si_ne hb, pg_si_ne hb, pg_si_ne hb]
  have lo : ∀ u9 v9, u9 ≠ 6 → (u9 = 4 → v9 ≠ 5) → (rd_addx X9 x9 y9).1 u9 v9 = X9.1 u9 v9 := fun u9 v9 z1 z2 => by
    simp only [rd_addx, sp_up]
    rw [if_neg (fun c => z2 c.1 c.2), if_neg (fun c => z1 c.1), if_neg (fun c => z1 c.1)]
  have l6 : ∀ p9, (rd_addx X9 x9 y9).1 6 p9 = if p9 = 6 * y9 + x9 then 1 else if p9 = 6 * x9 + y9 then 1 else X9.1 6 p9 := fun p9 => by
    simp [rd_addx, sp_up]
  have l45 : (rd_addx X9 x9 y9).1 4 5 = X9.1 4 5 + 1 := by simp [rd_addx, sp_up]
  have l40 : (rd_addx X9 x9 y9).1 4 0 = X9.1 4 0 := lo 4 0 (by decide) (by decide)
  have ee : ∀ q9, q9 < 2 → rm_rE M a9 q9 (X9.2.1 q9) → rm_rE (pg_si (pg_si (pg_si M 213 (132 + 6 * x9 + y9) 1) 213 (132 + 6 * y9 + x9) 1) 213 105 (nI (X9.1 4 5 + 1))) a9 q9 (X9.2.1 q9) := fun q9 hq he => by
    unfold rm_rE at he ⊢
    rw [ne (106 + q9) (by omega) (by omega) (by omega), no 214 (by decide), no 215 (by decide)]; exact he
  refine ⟨⟨?_, ?_, ?_, ?_, ?_, ?_, fun c9 i9 hc hi => ?_, fun u9 v9 hu hv => ?_, fun p9 hp => ?_, fun j9 hj => ?_, ee 0 (by omega) a11, ee 1 (by omega) a12, by rw [no 207 (by decide)]; exact a13, by rw [no 207 (by decide)]; exact a14⟩, ?_⟩
  · rw [ne _ (by omega) (by omega) (by omega), l40]; exact a1
  · rw [ne _ (by omega) (by omega) (by omega), lo 4 4 (by decide) (by decide)]; exact a2
  · rw [ne _ (by omega) (by omega) (by omega), lo 4 3 (by decide) (by decide)]; exact a3
  · rw [ne _ (by omega) (by omega) (by omega), lo 4 1 (by decide) (by decide)]; exact a4
  · rw [ne _ (by omega) (by omega) (by omega), lo 4 2 (by decide) (by decide)]; exact a5
  · rw [pg_si_at, pk_us, l45]
  · rw [l40] at hc
    rw [ne _ (by omega) (by omega) (by omega), lo i9 c9 (by omega) (by omega)]
    exact a7 c9 i9 hc hi
  · rw [l6]
    by_cases z1 : 6 * u9 + v9 = 6 * y9 + x9
    · rw [if_pos z1, show 132 + 6 * u9 + v9 = 132 + 6 * y9 + x9 by omega, pg_si_at, pk_un (by omega), pg_si_at, pk_us]; rfl
    · rw [if_neg z1]
      by_cases z2 : 6 * u9 + v9 = 6 * x9 + y9
      · rw [if_pos z2, show 132 + 6 * u9 + v9 = 132 + 6 * x9 + y9 by omega, pg_si_at, pk_un (by omega), pg_si_at, pk_un (by omega), pg_si_at, pk_us]; rfl
      · rw [if_neg z2, ne _ (by omega) (by omega) (by omega)]
        exact a8 u9 v9 hu hv
  · rw [lo 4 4 (by decide) (by decide)] at hp
    rw [lo 7 p9 (by decide) (by intro c; cases c)]
    by_cases z1 : 168 + p9 = 132 + 6 * x9 + y9 ∨ 168 + p9 = 132 + 6 * y9 + x9
    · omega
    · rw [ne _ (by omega) (by omega) (by omega)]; exact a9' p9 hp
  · rw [lo 4 3 (by decide) (by decide)] at hj
    rw [ne _ (by omega) (by omega) (by omega), lo 5 j9 (by decide) (by intro c; cases c)]; exact a10 j9 hj
  · rw [l40]
    exact ⟨by rw [no 207 (by decide)]; exact b1, b2⟩
theorem rm_readClash (hX : pg_isX11 Λ) (hk : tk_ok tp) (ho : rd_ok X9) (hw0 : (tk_tok tp k9).1 ≠ 0) (hR : rm_R M tp n9 (.ok k9)) (hx : rm_rX M a9 X9) : pg_Ev S Λ YX11_readClash (d + 5) [.ref 207] M (fun q M' => q = none ∧ rm_lp a9 n9 tp M (rd_clash tp k9 X9) M') := by
  have h6 := ho.1.1
  obtain ⟨r1, f1⟩ := hR.adv hw0
  have x1 := hx.rf f1
  have st1 : pg_Ev S Λ YX11_takeTold (d + 4) [.ref 207, .int 1] (pg_si M 207 7 ((M.1 207 7) + 1)) (fun r M' => ∃ v, r = some (.int v) ∧ rm_v tp n9 M (rd_told tp X9.2.2.1 (X9.1 4 0) (k9 + 1)) (k9 + 2) v M') := by
    refine pg_Ev.imp ?_ (rm_takeTold (S := S) (d := d) (b9 := 1) (by omega) hX hk r1 x1.2 ho.nok)
    rintro q7 M9 ⟨v9, y1, y2, y3⟩
    exact ⟨v9, y1, f1.trans y2, y3⟩
  cases ha : rd_told tp X9.2.2.1 (X9.1 4 0) (k9 + 1) with
  | error e9 =>
    rw [ha] at st1
    have er : rd_clash tp k9 X9 = .error e9 := by unfold rd_clash; rw [ha, rd_b_er]
    have st2 : ∀ v9 Mq1, rm_v tp n9 M (.error e9) (k9 + 2) v9 Mq1 → pg_Ev S Λ YX11_toldHere (d + 4) [.ref 207, .int 1] Mq1 (fun r M' => ∃ v, r = some (.int v) ∧ (rm_R M' tp n9 (.error e9) ∧ rm_rf M M')) := by
      rintro v9 Mq1 ⟨g1, g2⟩
      refine pg_Ev.mono (by omega) (pg_Ev.imp ?_ (rm_toldHere_e (S := S) (d := d) hX g2))
      rintro q7 M9 ⟨v8, y1, y2⟩
      rw [y2]
      exact ⟨v8, y1, g2, g1⟩
    exact oX11_readClash (sX11_readClash_0 (Q0 := fun v M' => rm_v tp n9 M (.error e9) (k9 + 2) v M') (Q1 := fun _ M' => rm_R M' tp n9 (.error e9) ∧ rm_rf M M') (Q2 := fun _ => True) (Q3 := fun _ => True) hX st1 (fun v9 Mq1 g9 => st2 v9 Mq1 g9) (fun v9 Mq1 _ v8 Mq2 g9 _ _ => ⟨rfl, g9.2.lf, by rw [er]; exact g9.1⟩) (fun v9 Mq1 _ v8 Mq2 g9 _ c => absurd c g9.1.e0) (fun v9 Mq1 _ v8 Mq2 g9 _ c => absurd c g9.1.e0) (fun v9 Mq1 _ v8 Mq2 g9 _ c => absurd c g9.1.e0) (fun v9 Mq1 _ v8 Mq2 g9 c => absurd c g9.1.e0) (fun v9 Mq1 _ v8 Mq2 g9 c => absurd c g9.1.e0) (fun v9 Mq1 _ v8 Mq2 g9 c => absurd c g9.1.e0) (fun v9 Mq1 _ v8 Mq2 g9 c => absurd c g9.1.e0) (fun v9 Mq1 _ v8 Mq2 g9 c => absurd c g9.1.e0) (fun v9 Mq1 _ v8 Mq2 g9 c => absurd c g9.1.e0) (fun v9 Mq1 _ v8 Mq2 g9 c => absurd c g9.1.e0) (fun v9 Mq1 _ v8 Mq2 g9 c => absurd c g9.1.e0) (fun v9 Mq1 _ v8 Mq2 g9 c => absurd c g9.1.e0) (fun v9 Mq1 _ v8 Mq2 g9 c => absurd c g9.1.e0) (fun v9 Mq1 _ v8 Mq2 g9 c => absurd c g9.1.e0) (fun v9 Mq1 _ v8 Mq2 g9 c => absurd c g9.1.e0) (fun v9 Mq1 _ v8 Mq2 g9 c => absurd c g9.1.e0))
  | ok x9 =>
    rw [ha] at st1
    have la := rd_told_ok ha
    have st2 : ∀ v9 Mq1, rm_v tp n9 M (.ok x9) (k9 + 2) v9 Mq1 → pg_Ev S Λ YX11_toldHere (d + 4) [.ref 207, .int 1] Mq1 (fun r M' => ∃ v, r = some (.int v) ∧ rm_v tp n9 M (rd_told tp X9.2.2.1 (X9.1 4 0) (k9 + 2)) (k9 + 2) v M') := by
      rintro v9 Mq1 ⟨g1, g2, _⟩
      refine pg_Ev.mono (by omega) (pg_Ev.imp ?_ (rm_toldHere (S := S) (d := d) (b9 := 1) (by omega) hX hk g2 (hx.2.rf (by omega) g1) ho.nok))
      rintro q7 M9 ⟨v8, y1, y2, y3⟩
      exact ⟨v8, y1, g1.trans y2, y3⟩
    cases hb : rd_told tp X9.2.2.1 (X9.1 4 0) (k9 + 2) with
    | error e9 =>
      rw [hb] at st2
      have er : rd_clash tp k9 X9 = .error e9 := by unfold rd_clash; rw [ha, rd_b_ok, hb, rd_b_er]
      exact oX11_readClash (sX11_readClash_0 (Q0 := fun v M' => rm_v tp n9 M (.ok x9) (k9 + 2) v M') (Q1 := fun v M' => rm_v tp n9 M (.error e9) (k9 + 2) v M') (Q2 := fun _ => True) (Q3 := fun _ => True) hX st1 (fun v9 Mq1 g9 => st2 v9 Mq1 g9) (fun v9 Mq1 _ v8 Mq2 g9 _ _ => ⟨rfl, g9.1.lf, by rw [er]; exact g9.2⟩) (fun v9 Mq1 _ v8 Mq2 g9 _ c => absurd c g9.2.e0) (fun v9 Mq1 _ v8 Mq2 g9 _ c => absurd c g9.2.e0) (fun v9 Mq1 _ v8 Mq2 g9 _ c => absurd c g9.2.e0) (fun v9 Mq1 _ v8 Mq2 g9 c => absurd c g9.2.e0) (fun v9 Mq1 _ v8 Mq2 g9 c => absurd c g9.2.e0) (fun v9 Mq1 _ v8 Mq2 g9 c => absurd c g9.2.e0) (fun v9 Mq1 _ v8 Mq2 g9 c => absurd c g9.2.e0) (fun v9 Mq1 _ v8 Mq2 g9 c => absurd c g9.2.e0) (fun v9 Mq1 _ v8 Mq2 g9 c => absurd c g9.2.e0) (fun v9 Mq1 _ v8 Mq2 g9 c => absurd c g9.2.e0) (fun v9 Mq1 _ v8 Mq2 g9 c => absurd c g9.2.e0) (fun v9 Mq1 _ v8 Mq2 g9 c => absurd c g9.2.e0) (fun v9 Mq1 _ v8 Mq2 g9 c => absurd c g9.2.e0) (fun v9 Mq1 _ v8 Mq2 g9 c => absurd c g9.2.e0) (fun v9 Mq1 _ v8 Mq2 g9 c => absurd c g9.2.e0) (fun v9 Mq1 _ v8 Mq2 g9 c => absurd c g9.2.e0))
    | ok y9 =>
      rw [hb] at st2
      have lb := rd_told_ok hb
      have ieq : ∀ (v9 v8 : Int32) Mq1 Mq2, rm_v tp n9 M (.ok x9) (k9 + 2) v9 Mq1 → rm_v tp n9 M (.ok y9) (k9 + 2) v8 Mq2 → (v9 = v8 ↔ x9 = y9) := fun v9 v8 Mq1 Mq2 g1 g2 => by
        rw [g1.2.2, g2.2.2, nI_eq (by omega) (by omega)]
      have w3 : ∀ (v8 : Int32) Mq2, rm_v tp n9 M (.ok y9) (k9 + 2) v8 Mq2 → pg_Ev S Λ YX11_wrong (d + 4) [.ref 207, .int 3] Mq2 (fun r M' => r = none ∧ (rm_R M' tp n9 (.error (3 + 16 * tk_place tp (k9 + 2))) ∧ rm_rf M M')) := fun v8 Mq2 g9 => by
        refine pg_Ev.imp ?_ (rm_wrong (S := S) (d := d + 4) (m9 := 3) (by omega) (by omega) hX hk g9.2.1)
        rintro q7 M9 ⟨z1, z2, z3, _⟩
        exact ⟨z1, z2, g9.1.trans z3⟩
      have ixa : ∀ u9 v9 : Nat, u9 < 6 → v9 < 6 → (132 : Int32) + 6 * nI u9 + nI v9 = nI (132 + 6 * u9 + v9) := fun u9 v9 _ _ => by
        rw [show (6 : Int32) = nI 6 from rfl, pk_mul, show (132 : Int32) = nI 132 from rfl, nI_add, nI_add]
      have ixc : ∀ u9 v9 : Nat, u9 < 6 → v9 < 6 → ((132 : Int32) + 6 * nI u9 + nI v9).toNatClampNeg = 132 + 6 * u9 + v9 := fun u9 v9 hu hv => by rw [ixa u9 v9 hu hv]; exact nI_clamp (by omega)
      have vin : ∀ u9 v9 : Nat, u9 < 6 → v9 < 6 → vp_in ((132 : Int32) + 6 * nI u9 + nI v9) 200 := fun u9 v9 hu hv => by rw [ixa u9 v9 hu hv]; exact vp_in_nI (by omega) (by decide)
      have m6 : ∀ (v9 v8 : Int32) Mq1 Mq2, rm_v tp n9 M (.ok x9) (k9 + 2) v9 Mq1 → rm_v tp n9 M (.ok y9) (k9 + 2) v8 Mq2 → (Mq2.1 213 ((132 + (6 * v9)) + v8).toNatClampNeg = 1 ↔ X9.1 6 (6 * x9 + y9) = 1) := fun v9 v8 Mq1 Mq2 g1 g2 => by
        have q4 := ho.2.2.1.2.2.2 (6 * x9 + y9)
        rw [g1.2.2, g2.2.2, ixc x9 y9 (by omega) (by omega), (hx.rf g2.1).1.2.2.2.2.2.2.2.1 x9 y9 (by omega) (by omega), show (1 : Int32) = nI 1 from rfl, nI_eq (by omega) (by decide)]
      by_cases hab : x9 = y9
      · have er : rd_clash tp k9 X9 = .error (3 + 16 * tk_place tp (k9 + 2)) := by unfold rd_clash; rw [ha, rd_b_ok, hb, rd_b_ok, if_pos (Or.inl hab)]; rfl
        refine oX11_readClash (sX11_readClash_0 (Q0 := fun v M' => rm_v tp n9 M (.ok x9) (k9 + 2) v M') (Q1 := fun v M' => rm_v tp n9 M (.ok y9) (k9 + 2) v M') (Q2 := fun M' => rm_R M' tp n9 (.error (3 + 16 * tk_place tp (k9 + 2))) ∧ rm_rf M M') (Q3 := fun _ => True) hX st1 (fun v9 Mq1 g9 => st2 v9 Mq1 g9) (fun v9 Mq1 _ v8 Mq2 g9 c => absurd g9.2.1.z0 c) (fun v9 Mq1 _ v8 Mq2 g9 c => absurd g9.2.1.z0 c) (fun v9 Mq1 _ v8 Mq2 g9 c => absurd g9.2.1.z0 c) (fun v9 Mq1 _ v8 Mq2 g9 c => absurd g9.2.1.z0 c) (fun v9 Mq1 _ v8 Mq2 g9 _ _ => w3 v8 Mq2 g9) (fun v9 Mq1 _ v8 Mq2 _ _ _ Mq3 g9 _ => ⟨rfl, g9.2.lf, by rw [er]; exact g9.1⟩) (fun v9 Mq1 _ v8 Mq2 _ _ _ Mq3 g9 c => absurd c g9.1.e0) (fun v9 Mq1 _ v8 Mq2 _ _ _ Mq3 g9 c => absurd c g9.1.e0) (fun v9 Mq1 _ v8 Mq2 _ _ _ Mq3 g9 c => absurd c g9.1.e0) ?_ ?_ ?_ ?_ ?_ ?_ ?_ ?_)
        all_goals (intro v9 Mq1 g9 v8 Mq2 g8 _ c; exact absurd ((ieq v9 v8 Mq1 Mq2 g9 g8).mpr hab) c)
      · by_cases ht : X9.1 6 (6 * x9 + y9) = 1
        · have er : rd_clash tp k9 X9 = .error (3 + 16 * tk_place tp (k9 + 2)) := by unfold rd_clash; rw [ha, rd_b_ok, hb, rd_b_ok, if_pos (Or.inr ht)]; rfl
          refine oX11_readClash (sX11_readClash_0 (Q0 := fun v M' => rm_v tp n9 M (.ok x9) (k9 + 2) v M') (Q1 := fun v M' => rm_v tp n9 M (.ok y9) (k9 + 2) v M') (Q2 := fun _ => True) (Q3 := fun M' => rm_R M' tp n9 (.error (3 + 16 * tk_place tp (k9 + 2))) ∧ rm_rf M M') hX st1 (fun v9 Mq1 g9 => st2 v9 Mq1 g9) (fun v9 Mq1 _ v8 Mq2 g9 c => absurd g9.2.1.z0 c) (fun v9 Mq1 _ v8 Mq2 g9 c => absurd g9.2.1.z0 c) (fun v9 Mq1 _ v8 Mq2 g9 c => absurd g9.2.1.z0 c) (fun v9 Mq1 _ v8 Mq2 g9 c => absurd g9.2.1.z0 c) ?_ ?_ ?_ ?_ ?_ (fun v9 Mq1 g9 v8 Mq2 g8 _ _ => by rw [g9.2.2, g8.2.2]; exact vin x9 y9 (by omega) (by omega)) (fun v9 Mq1 g9 v8 Mq2 g8 _ _ c => absurd ((m6 v9 v8 Mq1 Mq2 g9 g8).mpr ht) c) (fun v9 Mq1 g9 v8 Mq2 g8 _ _ c => absurd ((m6 v9 v8 Mq1 Mq2 g9 g8).mpr ht) c) (fun v9 Mq1 g9 v8 Mq2 g8 _ _ c => absurd ((m6 v9 v8 Mq1 Mq2 g9 g8).mpr ht) c) (fun v9 Mq1 _ v8 Mq2 g9 _ _ _ => w3 v8 Mq2 g9) (fun v9 Mq1 _ v8 Mq2 _ _ _ _ Mq3 g9 _ => ⟨rfl, g9.2.lf, by rw [er]; exact g9.1⟩) (fun v9 Mq1 _ v8 Mq2 _ _ _ _ Mq3 g9 c => absurd c g9.1.e0) (fun v9 Mq1 _ v8 Mq2 _ _ _ _ Mq3 g9 c => absurd c g9.1.e0))
          all_goals (intro v9 Mq1 g9 v8 Mq2 g8 _ c; exact absurd ((ieq v9 v8 Mq1 Mq2 g9 g8).mp c) hab)
        · have er : rd_clash tp k9 X9 = .ok (k9 + 3, rd_addx X9 x9 y9) := by unfold rd_clash; rw [ha, rd_b_ok, hb, rd_b_ok, if_neg (by rintro (c | c); exact hab c; exact ht c)]
          refine oX11_readClash (sX11_readClash_0 (Q0 := fun v M' => rm_v tp n9 M (.ok x9) (k9 + 2) v M') (Q1 := fun v M' => rm_v tp n9 M (.ok y9) (k9 + 2) v M') (Q2 := fun _ => True) (Q3 := fun _ => True) hX st1 (fun v9 Mq1 g9 => st2 v9 Mq1 g9) (fun v9 Mq1 _ v8 Mq2 g9 c => absurd g9.2.1.z0 c) (fun v9 Mq1 _ v8 Mq2 g9 c => absurd g9.2.1.z0 c) (fun v9 Mq1 _ v8 Mq2 g9 c => absurd g9.2.1.z0 c) (fun v9 Mq1 _ v8 Mq2 g9 c => absurd g9.2.1.z0 c) ?_ ?_ ?_ ?_ ?_ (fun v9 Mq1 g9 v8 Mq2 g8 _ _ => by rw [g9.2.2, g8.2.2]; exact vin x9 y9 (by omega) (by omega)) (fun v9 Mq1 _ v8 Mq2 g9 _ _ _ c => absurd g9.2.1.z0 c) (fun v9 Mq1 g9 v8 Mq2 g8 _ _ _ _ => by rw [g9.2.2, g8.2.2]; exact vin y9 x9 (by omega) (by omega)) (fun v9 Mq1 g9 v8 Mq2 g8 _ _ _ _ Nq1 eq1 => ?_) (fun v9 Mq1 g9 v8 Mq2 g8 _ _ c => absurd ((m6 v9 v8 Mq1 Mq2 g9 g8).mp c) ht) (fun v9 Mq1 g9 v8 Mq2 g8 _ _ c => absurd ((m6 v9 v8 Mq1 Mq2 g9 g8).mp c) ht) (fun v9 Mq1 g9 v8 Mq2 g8 _ _ c => absurd ((m6 v9 v8 Mq1 Mq2 g9 g8).mp c) ht) (fun v9 Mq1 g9 v8 Mq2 g8 _ _ c => absurd ((m6 v9 v8 Mq1 Mq2 g9 g8).mp c) ht))
          · intro v9 Mq1 g9 v8 Mq2 g8 _ c; exact absurd ((ieq v9 v8 Mq1 Mq2 g9 g8).mp c) hab
          · intro v9 Mq1 g9 v8 Mq2 g8 _ c; exact absurd ((ieq v9 v8 Mq1 Mq2 g9 g8).mp c) hab
          · intro v9 Mq1 g9 v8 Mq2 g8 _ c; exact absurd ((ieq v9 v8 Mq1 Mq2 g9 g8).mp c) hab
          · intro v9 Mq1 g9 v8 Mq2 g8 _ c; exact absurd ((ieq v9 v8 Mq1 Mq2 g9 g8).mp c) hab
          · intro v9 Mq1 g9 v8 Mq2 g8 _ c; exact absurd ((ieq v9 v8 Mq1 Mq2 g9 g8).mp c) hab
          obtain ⟨r2, f2⟩ := g8.2.1.adv (by rw [rd_nm_2 lb.2.2.1]; decide)
          have x2 := (hx.rf g8.1).rf f2
          have x3 := rm_rX.clash (x9 := x9) (y9 := y9) h6 (by omega) (by omega) x2
          rw [g9.2.2, g8.2.2, ixc x9 y9 (by omega) (by omega), ixc y9 x9 (by omega) (by omega)] at eq1
          have c105 : (105 : Int32).toNatClampNeg = 105 := by decide
          have e5 : Nq1.1 213 105 + 1 = nI (X9.1 4 5 + 1) := by
            rw [eq1, pg_si_at, pk_un (by omega), pg_si_at, pk_un (by omega), x2.1.2.2.2.2.2.1, nI_1]
          rw [c105, e5, eq1]
          refine ⟨rfl, (((g8.1.lf.trans f2.lf).trans (rm_lf.s13 (by omega))).trans (rm_lf.s13 (by omega))).trans (rm_lf.s13 (by omega)), ?_⟩
          rw [er]
          exact ⟨((r2.s13).s13).s13, x3⟩
end PGR
