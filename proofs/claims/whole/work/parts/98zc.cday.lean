/-! DAYS: the class's day -/
section PGR
variable {S : pg_S} {Λ : pg_L} {d l9 p9 : Nat} {M : pg_M} {tp : List Nat} {X9 : rd_X}
def rc_de (p9 : Nat) (M : pg_M) (x9 : Except Nat (List (Nat × Nat × Nat))) (v9 : Int32) (M' : pg_M) : Prop := rc_df p9 M M' ∧ M'.1 1 1 = 0 ∧ match x9 with
  | .error e9 => v9 = nI e9 ∧ 0 < e9 ∧ e9 < 2 ^ 20
  | .ok pl => v9 = 0 ∧ rc_P M' p9 pl
theorem rc_readDay10 (h9 : 3 ≤ p9) (hl : 3 ≤ l9) (hlp : l9 + 15 ≤ p9) (hX : pg_isX7 Λ) (h5 : pg_isX5 Λ l9) (h1 : pg_isX1 Λ p9) (hk : tk_ok tp) (ho : rd_ok X9) (hn : M.1 l9 10 = nI (X9.1 4 0)) (hN : rc_N M l9 (X9.1 4 0) X9.2.2.1) : ∀ f9 k9 i9 pl Mq, i9 ≤ k9 → k9 ≤ tp.length → tp.length < f9 + k9 → (pl.length ≤ 30 ∧ ∀ e9, e9 ∈ pl → sp_okP X9.1 e9) → rc_R Mq tp (.ok k9) → rc_P Mq p9 pl → rc_df p9 M Mq → pg_At S Λ YX7_readDay (d + 6) 10 [(0, .ref 1), (1, .ref l9), (2, .ref p9), (3, .int (nI i9))] [] Mq (fun q M' => ∃ v, q = some (.int v) ∧ rc_de p9 M (rd_dones tp X9.2.2.1 (X9.1 4 0) f9 k9 pl) v M') := by
  have hlen := hk.1
  have ends : ∀ Mq, rc_df p9 M Mq → rc_df p9 M (pg_si Mq 1 1 0) ∧ (pg_si Mq 1 1 0).1 1 1 = 0 ∧ (pg_si Mq 1 1 0).1 1 9 = Mq.1 1 9 := fun Mq g => ⟨g.trans (pg_pf.si (Or.inl rfl)), by rw [pg_si_at, pk_us], by rw [pg_si_at, pk_un (by decide)]⟩
  intro f9
  induction f9 with
  | zero => intro k9 i9 pl Mq _ h1 h2; omega
  | succ f9 ih9 =>
    intro k9 i9 pl Mq hi hk1 h2 hp hR hP hf
    have s0 := hR.tk.s0 (c9 := 0) hk (by omega)
    obtain ⟨n1, n2, n3⟩ := ends Mq hf
    have fin9 : (tk_tok tp k9).1 = 0 → ∃ v, (some (Value.int ((pg_si Mq 1 1 0).1 1 9))) = some (.int v) ∧ rc_de p9 M (rd_dones tp X9.2.2.1 (X9.1 4 0) (f9 + 1) k9 pl) v (pg_si Mq 1 1 0) := fun c9 => by
      refine ⟨_, rfl, n1, n2, ?_⟩
      simp only [rd_dones]
      rw [if_pos c9]
      exact ⟨by rw [n3]; exact hR.f0, hP.fr (by rw [pg_si_ne (by omega)]) (fun j9 _ _ => pg_si_ne (by omega))⟩
    by_cases c9 : (tk_tok tp k9).1 = 0
    · exact sX7_readDay_10 (Q0 := fun _ => True) hX (fun _ => fin9 c9) (fun _ c => absurd hR.f0 c) (fun _ _ _ => fin9 c9) (fun _ _ c => absurd (s0.mpr c9) c) (fun _ _ c => absurd (s0.mpr c9) c)
    · have kl : k9 < tp.length := tk_in c9
      have ci : ¬ (1000 : Int32) ≤ nI i9 := nI_ge (show i9 < 1000 by omega) (by decide)
      have m0 : ¬ Mq.1 1 4 = 0 := fun c => c9 (s0.mp c)
      have he : rd_dones tp X9.2.2.1 (X9.1 4 0) (f9 + 1) k9 pl = rd_b (rd_done tp X9.2.2.1 (X9.1 4 0) k9 pl) (fun r9 => rd_dones tp X9.2.2.1 (X9.1 4 0) f9 r9.1 r9.2) := by
        conv => lhs; simp only [rd_dones]
        rw [if_neg c9]
      have hn2 : Mq.1 l9 10 = nI (X9.1 4 0) := by rw [hf.1 l9 (by unfold rc_dq; omega)]; exact hn
      have hN2 : rc_N Mq l9 (X9.1 4 0) X9.2.2.1 := fun c9 hc => by rw [hf.2.1 (l9 + 1) (by unfold rc_dq; omega)]; exact hN c9 hc
      refine sX7_readDay_10 (Q0 := fun M' => rc_dp p9 tp M (rd_done tp X9.2.2.1 (X9.1 4 0) k9 pl) M') hX (fun c => absurd c ci) (fun _ c => absurd hR.f0 c) (fun _ _ c => absurd c m0) (fun _ _ _ => ?_) (fun _ _ _ Mq1 g9 => ?_)
      · refine pg_Ev.imp ?_ (rc_readDone (S := S) (d := d) h9 hl hlp hX h5 h1 hk ho hn2 hN2 hp.1 hR hP)
        rintro q7 M9 ⟨y1, y2, y3⟩
        exact ⟨y1, hf.trans y2, y3⟩
      · obtain ⟨g1, g2⟩ := g9
        rw [nI_1, he]
        cases hs : rd_done tp X9.2.2.1 (X9.1 4 0) k9 pl with
        | error e9 =>
          rw [hs] at g2
          obtain ⟨m1, m2, m3⟩ := ends Mq1 g1
          have fin8 : ∃ v, (some (Value.int ((pg_si Mq1 1 1 0).1 1 9))) = some (.int v) ∧ rc_de p9 M (rd_b (.error e9) (fun r9 : Nat × List (Nat × Nat × Nat) => rd_dones tp X9.2.2.1 (X9.1 4 0) f9 r9.1 r9.2)) v (pg_si Mq1 1 1 0) := by
            refine ⟨_, rfl, m1, m2, ?_⟩
            rw [rd_b_er]
            obtain ⟨_, z1, z2, z3⟩ := g2
            exact ⟨by rw [m3]; exact z1, z2, z3⟩
          exact sX7_readDay_10 (Q0 := fun _ => True) hX (fun _ => fin8) (fun _ _ => fin8) (fun _ c => absurd c g2.f1) (fun _ c => absurd c g2.f1) (fun _ c => absurd c g2.f1)
        | ok r9 =>
          rw [hs] at g2
          obtain ⟨z1, z2, z3⟩ := rd_done_ok (L9 := X9.1) hp hs
          rw [rd_b_ok]
          exact ih9 r9.1 (i9 + 1) r9.2 Mq1 (by omega) z3 (by omega) z1 g2.1 g2.2 g1
theorem rc_readDay (h9 : 3 ≤ p9) (hl : 3 ≤ l9) (hlp : l9 + 15 ≤ p9) (hX : pg_isX7 Λ) (h5 : pg_isX5 Λ l9) (h1 : pg_isX1 Λ p9) (hk : tk_ok tp) (ho : rd_ok X9) (hn : M.1 l9 10 = nI (X9.1 4 0)) (hN : rc_N M l9 (X9.1 4 0) X9.2.2.1) (hT : rc_T M tp) : pg_Ev S Λ YX7_readDay (d + 6) [.ref 1, .ref l9, .ref p9] M (fun q M' => ∃ v, q = some (.int v) ∧ rc_de p9 M (rd_day tp X9.2.2.1 (X9.1 4 0)) v M') := by
  have p0 : rc_P (pg_si M p9 3 0) p9 [] := ⟨by rw [pg_si_at, pk_us]; rfl, fun j9 e9 hj => by simp at hj⟩
  have t0 : rc_T (pg_si M p9 3 0) tp := by
    unfold rc_T at hT ⊢
    rw [pg_si_ne (by omega), pg_si_ne (by omega)]
    exact hT
  refine oX7_readDay (sX7_readDay_0 (Q0 := fun M' => M' = pg_si M p9 3 0) (Q1 := fun M' => rc_R M' tp (.ok 0) ∧ rc_rf (pg_si M p9 3 0) M') h1 hX (oX1_clear (sX1_clear_0 h1 ⟨rfl, rfl⟩)) ?_ ?_)
  · rintro Mq1 e9
    rw [e9]
    exact pg_Ev.mono (by omega) (rc_rbegin (S := S) (d := d) hX hk t0)
  · rintro Mq1 _ Mq2 ⟨g1, g2⟩
    exact rc_readDay10 h9 hl hlp hX h5 h1 hk ho hn hN (tp.length + 1) 0 0 [] Mq2 (Nat.le_refl _) (Nat.zero_le _) (by omega) ⟨by simp, fun e9 he => by simp at he⟩ g1 (p0.rf g2 h9) ((pg_pf.si (Or.inr ⟨Nat.le_refl _, by omega⟩)).trans g2.df)
end PGR
section PGP
variable {S : pg_S} {Λ : pg_L} {d h : Nat} {M : pg_M} {G : sp_G}
/-- a day that failed, and one that was read: the told one stays -/
theorem rc_G.unread {M' : pg_M} {p9 : Nat} (hg : rc_G M G) (hp : p9 = M.2.2 0 11) (g1 : rc_df p9 M M') (g2 : M'.1 1 1 = 0) : rc_G M' (G.tape []) := by
  obtain ⟨gd, gl, gn, gs, gf, gu, gm, gp, gt, gz⟩ := hg
  have hpp : (M.2.2 0 10 = 199 ∧ p9 = 203) ∨ (M.2.2 0 10 = 203 ∧ p9 = 199) := by
    rw [hp]; exact gd.2
  have gdl := gd.l
  have ne : ∀ b9, b9 ≠ 1 → (b9 < p9 ∨ p9 + 4 ≤ b9) → M'.1 b9 = M.1 b9 := fun b9 z1 z2 => g1.1 b9 (by unfold rc_dq; omega)
  have nj : ∀ b9, b9 ≠ 1 → (b9 < p9 ∨ p9 + 4 ≤ b9) → M'.2.1 b9 = M.2.1 b9 := fun b9 z1 z2 => g1.2.1 b9 (by unfold rc_dq; omega)
  refine ⟨gd.mv g1.2.2, ?_, ?_, gs.fr (fun j9 hj => ne _ (by omega) (by omega)), gf.fr (fun j9 hj => ne _ (by omega) (by omega)), gu.fr (ne _ (by omega) (by omega)) (fun b9 a9 c9 => ne _ (by omega) (by omega)), gm.fr (ne _ (by omega) (by omega)) (fun b9 a9 c9 => ne _ (by omega) (by omega)), ?_, ?_, ?_⟩
  · rw [g1.2.2]
    exact gl.fr (fun j9 a9 b9 c9 => ne _ (by omega) (by omega))
  · intro c9 hc
    rw [g1.2.2, nj _ (by omega) (by omega)]
    exact gn c9 hc
  · rw [g1.2.2]
    exact gp.fr (by rw [ne _ (by omega) (by omega)]) (fun j9 a9 b9 => ne _ (by omega) (by omega))
  · exact ⟨g2, fun j9 c9 hj => by simp [sp_G.tape_tp] at hj⟩
  · exact ⟨by rw [ne 156 (by omega) (by omega)]; exact gz.1, by rw [ne 157 (by omega) (by omega)]; exact gz.2⟩
theorem rc_day (hF : pg_full Λ) (hg : rc_G M G) (hk : sp_okG G h) : pg_Ev S Λ YX10_day (d + 7) [.ref 0] M (fun r M' => ∃ v, r = some (.int v) ∧ (v = (sp_qday G).1 ∧ rc_G M' (sp_qday G).2 ∧ rc_out M M')) := by
  have gd := hg.d
  have hll := gd.l
  have hpp : (M.2.2 0 10 = 199 ∧ M.2.2 0 11 = 203) ∨ (M.2.2 0 10 = 203 ∧ M.2.2 0 11 = 199) := gd.2
  have h1 : pg_isX1 Λ (M.2.2 0 11) := by
    rcases hpp with ⟨_, b⟩ | ⟨_, b⟩
    · rw [b]; exact hF.2.2.2.2.2.2.2.2.2.2.2.2.1
    · rw [b]; exact hF.2.2.2.2.2.2.2.2.2.2.2.1
  obtain ⟨X9, ho, x1, x2⟩ := hk.rd
  have rl := rc_readDay (S := S) (Λ := Λ) (d := d) (X9 := X9) (l9 := M.2.2 0 8) (p9 := M.2.2 0 11) (M := M) (by omega) (by omega) (by omega) hF.2.1 (gd.x5 hF) h1 hk.tk ho (by rw [x1]; exact hg.l.1) (by rw [x1, x2]; exact hg.n) hg.t
  rw [x1, x2] at rl
  have out : ∀ Mq, rc_df (M.2.2 0 11) M Mq → rc_out M Mq := fun Mq y1 => rc_out.of y1 (fun b9 hb => by unfold rc_dq at hb; omega)
  cases hq : rd_day G.tp G.nm (G.L 4 0) with
  | error e9 =>
    rw [hq] at rl
    have eq9 : sp_qday G = (nI e9, G.tape []) := by unfold sp_qday; rw [hq]
    rw [eq9]
    refine oX10_day (sX10_day_0 (Q0 := fun v M' => rc_de (M.2.2 0 11) M (.error e9) v M') hF.1 hF.2.1 rl ?_ ?_)
    · rintro v9 Mq1 ⟨_, _, y3, y4, y5⟩ c; rw [y3] at c; exact absurd c (nI_ne0 y4 (by omega))
    · rintro v9 Mq1 ⟨y1, y2, y3, y4, y5⟩ _
      exact ⟨_, rfl, y3, hg.unread rfl y1 y2, out Mq1 y1⟩
  | ok pl =>
    rw [hq] at rl
    have eq9 : sp_qday G = (0, G.plan pl []) := by unfold sp_qday; rw [hq]
    rw [eq9]
    refine oX10_day (sX10_day_0 (Q0 := fun v M' => rc_de (M.2.2 0 11) M (.ok pl) v M') hF.1 hF.2.1 rl ?_ ?_)
    · rintro v9 Mq1 ⟨y1, y2, y3, y4⟩ _
      have g9 := hg.unread rfl y1 y2
      obtain ⟨zd, zl, zn, zs, zf, zu, zm, zp, zt, zz⟩ := g9
      have e8 := y1.2.2
      have r8 : (pg_sr (pg_sr Mq1 0 11 (Mq1.2.2 0 10)) 0 10 (Mq1.2.2 0 11)).2.2 0 8 = M.2.2 0 8 := by simp [pg_sr, e8]
      have r9 : (pg_sr (pg_sr Mq1 0 11 (Mq1.2.2 0 10)) 0 10 (Mq1.2.2 0 11)).2.2 0 9 = M.2.2 0 9 := by simp [pg_sr, e8]
      have r10 : (pg_sr (pg_sr Mq1 0 11 (Mq1.2.2 0 10)) 0 10 (Mq1.2.2 0 11)).2.2 0 10 = M.2.2 0 11 := by simp [pg_sr, e8]
      have r11 : (pg_sr (pg_sr Mq1 0 11 (Mq1.2.2 0 10)) 0 10 (Mq1.2.2 0 11)).2.2 0 11 = M.2.2 0 10 := by simp [pg_sr, e8]
      refine ⟨_, rfl, rfl, ⟨?_, ?_, ?_, zs, zf, zu, zm, ?_, zt, zz⟩, out Mq1 y1⟩
      · unfold rc_dy
        rw [r8, r9, r10, r11]
        exact ⟨gd.1, by omega⟩
      · rw [r8]; rw [e8] at zl; exact zl
      · rw [r8]; rw [e8] at zn; exact zn
      · rw [r10]; exact y4
    · rintro v9 Mq1 ⟨_, _, y3, _⟩ c; exact absurd y3 c
end PGP
