/-! LINES: the class's line -/
section PGR
variable {S : pg_S} {Λ : pg_L} {d h : Nat} {M : pg_M} {G : sp_G}
/-- a reading that failed -/
theorem rc_G.lost {M' : pg_M} {l9 : Nat} (hg : rc_G M G) (hl : l9 = M.2.2 0 9) (g1 : rc_lf l9 M M') (g2 : M'.1 1 1 = 0) : rc_G M' (G.tape []) := by
  obtain ⟨gd, gl, gn, gs, gf, gu, gm, gp, gt, gz⟩ := hg
  have hll : (M.2.2 0 8 = 169 ∧ l9 = 184) ∨ (M.2.2 0 8 = 184 ∧ l9 = 169) := by
    rw [hl]; exact gd.1
  have gdp := gd.p
  have ne : ∀ b9, b9 ≠ 1 → (b9 < l9 ∨ l9 + 15 ≤ b9) → M'.1 b9 = M.1 b9 := fun b9 z1 z2 => g1.1 b9 (by unfold rc_lq; omega)
  have nj : ∀ b9, b9 ≠ 1 → (b9 < l9 ∨ l9 + 15 ≤ b9) → M'.2.1 b9 = M.2.1 b9 := fun b9 z1 z2 => g1.2.1 b9 (by unfold rc_lq; omega)
  refine ⟨gd.mv g1.2.2, ?_, ?_, gs.fr (fun j9 hj => ne _ (by omega) (by omega)), gf.fr (fun j9 hj => ne _ (by omega) (by omega)), gu.fr (ne _ (by omega) (by omega)) (fun b9 a9 c9 => ne _ (by omega) (by omega)), gm.fr (ne _ (by omega) (by omega)) (fun b9 a9 c9 => ne _ (by omega) (by omega)), ?_, ?_, ?_⟩
  · rw [g1.2.2]
    exact gl.fr (fun j9 a9 b9 c9 => ne _ (by omega) (by omega))
  · intro c9 hc
    rw [g1.2.2, nj _ (by omega) (by omega)]
    exact gn c9 hc
  · rw [g1.2.2]
    exact gp.fr (by rw [ne _ (by omega) (by omega)]) (fun j9 a9 b9 => ne _ (by omega) (by omega))
  · exact ⟨g2, fun j9 c9 hj => by simp [sp_G.tape_tp] at hj⟩
  · exact ⟨by rw [ne 156 (by omega) (by omega)]; exact gz.1, by rw [ne 157 (by omega) (by omega)]; exact gz.2⟩
theorem rc_line (hF : pg_full Λ) (hg : rc_G M G) (hk : sp_okG G h) : pg_Ev S Λ YX10_line (d + 37) [.ref 0] M (fun r M' => ∃ v, r = some (.int v) ∧ (v = (sp_qline G).1 ∧ rc_G M' (sp_qline G).2 ∧ rc_out M M')) := by
  have gd := hg.d
  have hll : (M.2.2 0 8 = 169 ∧ M.2.2 0 9 = 184) ∨ (M.2.2 0 8 = 184 ∧ M.2.2 0 9 = 169) := gd.1
  have hpp : (M.2.2 0 10 = 199 ∧ M.2.2 0 11 = 203) ∨ (M.2.2 0 10 = 203 ∧ M.2.2 0 11 = 199) := gd.2
  have h5 : pg_isX5 Λ (M.2.2 0 9) := by
    rcases hll with ⟨_, b⟩ | ⟨_, b⟩
    · rw [b]; exact hF.2.2.2.2.2.2.2.2.2.2.1
    · rw [b]; exact hF.2.2.2.2.2.2.2.2.2.1
  have rl := rc_readLine (S := S) (Λ := Λ) (d := d) (l9 := M.2.2 0 9) (M := M) (by omega) hF.2.1 h5 hk.tk hg.t
  cases hq : rd_line G.tp with
  | error e9 =>
    rw [hq] at rl
    have eq9 : sp_qline G = (nI e9, G.tape []) := by unfold sp_qline; rw [hq]
    rw [eq9]
    refine oX10_line (sX10_line_0 (Q0 := fun v M' => rc_le (M.2.2 0 9) M (.error e9) v M') (Q1 := fun _ => True) (Q2 := fun _ => True) (Q3 := fun _ => True) (Q4 := fun _ => True) hF.1 hF.2.1 hF.2.2.1 hF.2.2.2.2.1 hF.2.2.2.2.2.1 rl ?_ ?_ ?_ ?_ ?_ ?_ ?_)
    all_goals first
      | (rintro v9 Mq1 ⟨_, _, y3, y4, y5⟩ c; rw [y3] at c; exact absurd c (nI_ne0 y4 (by omega)))
      | skip
    rintro v9 Mq1 ⟨y1, y2, y3, y4, y5⟩ _
    refine ⟨_, rfl, y3, hg.lost rfl y1 y2, rc_out.of y1 (fun b9 hb => ?_)⟩
    unfold rc_lq at hb
    omega
  | ok X9 =>
    rw [hq] at rl
    have ho := rd_line_ok hq
    have eq9 : sp_qline G = (0, (X9.1, X9.2.1, X9.2.2.1, sp_start X9.1, [], fun _ => none, [], [], [])) := by unfold sp_qline; rw [hq]; rfl
    rw [eq9]
    -- behind the change of lines
    have s2 : ∀ Mq1 : pg_M, Mq1.2.2 = M.2.2 → (pg_sr (pg_sr Mq1 0 9 (Mq1.2.2 0 8)) 0 8 (Mq1.2.2 0 9)).2.2 0 8 = M.2.2 0 9 ∧ (pg_sr (pg_sr Mq1 0 9 (Mq1.2.2 0 8)) 0 8 (Mq1.2.2 0 9)).2.2 0 9 = M.2.2 0 8 ∧ (∀ j9, j9 ≠ 8 → j9 ≠ 9 → (pg_sr (pg_sr Mq1 0 9 (Mq1.2.2 0 8)) 0 8 (Mq1.2.2 0 9)).2.2 0 j9 = M.2.2 0 j9) := by
      intro Mq1 e9
      refine ⟨by simp [pg_sr, e9], by simp [pg_sr, e9], fun j9 z1 z2 => by simp [pg_sr, e9, z1, z2]⟩
    have pqx : ∀ p9 : Nat, (M.2.2 0 10 = p9) → p9 = 199 ∨ p9 = 203 := fun p9 e9 => by omega
    refine oX10_line (sX10_line_0 (Q0 := fun v M' => rc_le (M.2.2 0 9) M (.ok X9) v M')
      (Q1 := fun M' => ∃ Mq1, rc_le (M.2.2 0 9) M (.ok X9) 0 Mq1 ∧ rc_S M' 3 (sp_start X9.1) ∧ pg_fr [3, 3 + 1, 3 + 2, 3 + 3, 3 + 4] (pg_sr (pg_sr Mq1 0 9 (Mq1.2.2 0 8)) 0 8 (Mq1.2.2 0 9)) M')
      (Q2 := fun M' => ∃ Mq1 Mq2, rc_le (M.2.2 0 9) M (.ok X9) 0 Mq1 ∧ rc_S Mq2 3 (sp_start X9.1) ∧ pg_fr [3, 3 + 1, 3 + 2, 3 + 3, 3 + 4] (pg_sr (pg_sr Mq1 0 9 (Mq1.2.2 0 8)) 0 8 (Mq1.2.2 0 9)) Mq2 ∧ M' = pg_si Mq2 (M.2.2 0 10) 3 0)
      (Q3 := fun M' => ∃ Mq1 Mq2, rc_le (M.2.2 0 9) M (.ok X9) 0 Mq1 ∧ rc_S Mq2 3 (sp_start X9.1) ∧ pg_fr [3, 3 + 1, 3 + 2, 3 + 3, 3 + 4] (pg_sr (pg_sr Mq1 0 9 (Mq1.2.2 0 8)) 0 8 (Mq1.2.2 0 9)) Mq2 ∧ M' = pg_si (pg_si Mq2 (M.2.2 0 10) 3 0) 13 5 0)
      (Q4 := fun M' => ∃ Mq1 Mq2, rc_le (M.2.2 0 9) M (.ok X9) 0 Mq1 ∧ rc_S Mq2 3 (sp_start X9.1) ∧ pg_fr [3, 3 + 1, 3 + 2, 3 + 3, 3 + 4] (pg_sr (pg_sr Mq1 0 9 (Mq1.2.2 0 8)) 0 8 (Mq1.2.2 0 9)) Mq2 ∧ M'.1 19 5 = 0 ∧ M'.1 19 4 = Mq2.1 19 4 ∧ (∀ m9, m9 < 4 → M'.1 23 m9 = 0) ∧ pg_fr [19, 23] (pg_si (pg_si Mq2 (M.2.2 0 10) 3 0) 13 5 0) M')
      hF.1 hF.2.1 hF.2.2.1 hF.2.2.2.2.1 hF.2.2.2.2.2.1 rl ?_ ?_ ?_ ?_ ?_ ?_ ?_)
    · rintro v9 Mq1 ⟨y1, y2, y3, y4, y5⟩ _
      obtain ⟨a1, a2, a3⟩ := s2 Mq1 y1.2.2
      rw [a1]
      have hl2 : rc_L (pg_sr (pg_sr Mq1 0 9 (Mq1.2.2 0 8)) 0 8 (Mq1.2.2 0 9)) (M.2.2 0 9) X9.1 X9.2.1 := y4
      refine pg_Ev.mono (by omega) (pg_Ev.imp ?_ (rc_begin (S := S) (d := d) (a := 3) hF.2.2.1 h5 hl2 ho.1 (by unfold pg_apart; omega)))
      rintro q7 M9 ⟨z1, z2, z3⟩
      exact ⟨z1, Mq1, ⟨y1, y2, rfl, y4, y5⟩, z2, z3⟩
    · rintro v9 Mq1 _ _ Mq2 ⟨Mq3, ⟨y1, _⟩, _, z3⟩
      obtain ⟨a1, a2, a3⟩ := s2 Mq3 y1.2.2
      rw [z3.2.2, a3 10 (by decide) (by decide)]
      rcases hpp with ⟨b, _⟩ | ⟨b, _⟩
      · rw [b]; exact hF.2.2.2.2.2.2.2.2.2.2.2.1
      · rw [b]; exact hF.2.2.2.2.2.2.2.2.2.2.2.2.1
    · rintro v9 Mq1 _ _ Mq2 ⟨Mq3, y0, z2, z3⟩
      obtain ⟨a1, a2, a3⟩ := s2 Mq3 y0.1.2.2
      rw [z3.2.2, a3 10 (by decide) (by decide)]
      have h1 : pg_isX1 Λ (M.2.2 0 10) := by
        rcases hpp with ⟨b, _⟩ | ⟨b, _⟩
        · rw [b]; exact hF.2.2.2.2.2.2.2.2.2.2.2.1
        · rw [b]; exact hF.2.2.2.2.2.2.2.2.2.2.2.2.1
      exact oX1_clear (sX1_clear_0 h1 ⟨rfl, Mq3, Mq2, y0, z2, z3, rfl⟩)
    · rintro v9 Mq1 _ _ Mq2 _ Mq4 ⟨Mq3, Mq5, y0, z2, z3, e9⟩
      rw [e9]
      exact oX2_clear (sX2_clear_0 hF.2.2.2.2.1 ⟨rfl, Mq3, Mq5, y0, z2, z3, rfl⟩)
    · rintro v9 Mq1 _ _ Mq2 _ Mq4 _ Mq6 ⟨Mq3, Mq5, y0, z2, z3, e9⟩
      rw [e9]
      refine pg_Ev.imp ?_ (rc_pclear (S := S) (d := d + 36) hF.2.2.2.2.2.1)
      rintro q7 M9 ⟨w1, w2, w3, w4, w5⟩
      refine ⟨w1, Mq3, Mq5, y0, z2, z3, w2, ?_, w4, w5⟩
      rw [w3, pg_si_ne (by omega), pg_si_ne (by omega)]
    · rintro v9 Mq1 _ _ Mq2 _ Mq4 _ Mq6 _ Mq7 ⟨Mq3, Mq5, ⟨y1, y2, _, y4, y5⟩, z2, z3, w2, w3, w4, w5⟩
      obtain ⟨a1, a2, a3⟩ := s2 Mq3 y1.2.2
      have rf : Mq7.2.2 = (pg_sr (pg_sr Mq3 0 9 (Mq3.2.2 0 8)) 0 8 (Mq3.2.2 0 9)).2.2 := w5.2.2.trans z3.2.2
      have r8 : Mq7.2.2 0 8 = M.2.2 0 9 := by rw [rf]; exact a1
      have r9 : Mq7.2.2 0 9 = M.2.2 0 8 := by rw [rf]; exact a2
      have r10 : Mq7.2.2 0 10 = M.2.2 0 10 := by rw [rf]; exact a3 10 (by decide) (by decide)
      have r11 : Mq7.2.2 0 11 = M.2.2 0 11 := by rw [rf]; exact a3 11 (by decide) (by decide)
      have ne3 : ∀ b9, b9 ≠ 13 → b9 ≠ 19 → b9 ≠ 23 → b9 ≠ 199 → b9 ≠ 203 → (b9 < 3 ∨ 7 < b9) → Mq7.1 b9 = Mq3.1 b9 := fun b9 e1 e2 e3 e4 e5 e6 => by
        rw [w5.1 b9 (by simp; omega), pg_si_ne e1, pg_si_ne (by omega), z3.1 b9 (by simp; omega)]; rfl
      have nj3 : ∀ b9, (b9 < 3 ∨ 7 < b9) → b9 ≠ 19 → b9 ≠ 23 → Mq7.2.1 b9 = Mq3.2.1 b9 := fun b9 e6 e2 e3 => by
        rw [w5.2.1 b9 (by simp; omega)]
        show Mq5.2.1 b9 = _
        rw [z3.2.1 b9 (by simp; omega)]; rfl
      have ne5 : ∀ b9, b9 ≠ 13 → b9 ≠ 19 → b9 ≠ 23 → b9 ≠ 199 → b9 ≠ 203 → Mq7.1 b9 = Mq5.1 b9 := fun b9 e1 e2 e3 e4 e5 => by
        rw [w5.1 b9 (by simp; omega), pg_si_ne e1, pg_si_ne (by omega)]
      have neM : ∀ b9, b9 ≠ 1 → (b9 < M.2.2 0 9 ∨ M.2.2 0 9 + 15 ≤ b9) → Mq3.1 b9 = M.1 b9 := fun b9 e1 e2 => y1.1 b9 (by unfold rc_lq; omega)
      refine ⟨_, rfl, rfl, ⟨?_, ?_, ?_, ?_, ?_, ?_, ?_, ?_, ?_, ?_⟩, ?_⟩
      · unfold rc_dy
        rw [r8, r9, r10, r11]
        exact ⟨by omega, by omega⟩
      · rw [r8]
        exact y4.fr (fun j9 hj _ _ => ne3 _ (by omega) (by omega) (by omega) (by omega) (by omega) (by omega))
      · intro c9 hc
        rw [r8, nj3 _ (by omega) (by omega) (by omega)]
        exact y5 c9 hc
      · exact z2.fr (fun j9 hj => ne5 _ (by omega) (by omega) (by omega) (by omega) (by omega))
      · refine ⟨?_, Nat.zero_le _, fun j9 e9 hj => by simp [sp_G.fl] at hj⟩
        rw [w5.1 13 (by simp), pg_si_at, pk_us]; rfl
      · obtain ⟨t9, t1, t2, t3, t4, t5⟩ := hg.u
        refine ⟨t9, t1, ?_, w2, Nat.zero_le _, fun j9 e9 hj => by simp [sp_G.us] at hj⟩
        rw [w3, z3.1 19 (by simp)]
        show Mq3.1 19 4 = _
        rw [neM 19 (by omega) (by omega)]; exact t2
      · intro m9 hm
        refine ⟨by rw [w4 m9 hm]; rfl, fun t9 f9 hc => ?_⟩
        cases hc
      · rw [r10]
        refine ⟨?_, fun j9 e9 hj => by simp [sp_G.pl] at hj⟩
        rw [w5.1 _ (by simp; omega), pg_si_ne (by omega), pg_si_at, pk_us]; rfl
      · refine ⟨?_, fun j9 c9 hj => by simp [sp_G.tp] at hj⟩
        rw [ne3 1 (by omega) (by omega) (by omega) (by omega) (by omega) (by omega), y2]; rfl
      · have gz := hg.z
        exact ⟨by rw [ne3 156 (by omega) (by omega) (by omega) (by omega) (by omega) (by omega), neM 156 (by omega) (by omega)]; exact gz.1, by rw [ne3 157 (by omega) (by omega) (by omega) (by omega) (by omega) (by omega), neM 157 (by omega) (by omega)]; exact gz.2⟩
      · intro b9 hb
        rw [ne3 b9 (by omega) (by omega) (by omega) (by omega) (by omega) (by omega), nj3 b9 (by omega) (by omega) (by omega), neM b9 (by omega) (by omega)]
        exact ⟨rfl, y1.2.1 b9 (by unfold rc_lq; omega)⟩
    · rintro v9 Mq1 ⟨_, _, y3, _⟩ c; exact absurd y3 c
end PGR
