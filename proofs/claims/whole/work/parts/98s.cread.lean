/-! LINES: the class reads cloths -/
/-- what was told once, as the class holds it -/
def rd_om (o9 : Nat) : Nat := o9 % 16 * 16 + o9 / 16 * 512
def rc_rX (M : pg_M) (l9 : Nat) (X9 : rd_X) : Prop := rc_L M l9 X9.1 X9.2.1 ∧ rc_N M l9 (X9.1 4 0) X9.2.2.1 ∧ M.1 1 8 = nI (rd_om X9.2.2.2)
def rc_lq (l9 b9 : Nat) : Prop := b9 = 1 ∨ (l9 ≤ b9 ∧ b9 < l9 + 15)
/-- what the reading of a line leaves as it was -/
def rc_lf (l9 : Nat) (M M' : pg_M) : Prop := pg_pf (rc_lq l9) M M'
theorem rc_rf.lf {l9 : Nat} {M M' : pg_M} (g1 : rc_rf M M') : rc_lf l9 M M' := pg_pf.of g1.1 (fun b9 hb => by simp at hb; exact Or.inl hb)
theorem rc_gf.lf {l9 r9 : Nat} {M M' : pg_M} (g1 : rc_gf r9 M M') (h1 : l9 ≤ r9) (h2 : r9 + 1 < l9 + 15) : rc_lf l9 M M' := pg_pf.of g1.1 (fun b9 hb => by simp at hb; unfold rc_lq; omega)
theorem rc_lf.si {l9 a9 k9 : Nat} {v9 : Int32} {M : pg_M} (h1 : l9 ≤ a9) (h2 : a9 < l9 + 15) : rc_lf l9 M (pg_si M a9 k9 v9) := pg_pf.si (Or.inr ⟨h1, h2⟩)
theorem rc_lf.sj {l9 a9 k9 : Nat} {v9 : Int64} {M : pg_M} (h1 : l9 ≤ a9) (h2 : a9 < l9 + 15) : rc_lf l9 M (pg_sj M a9 k9 v9) := pg_pf.sj (Or.inr ⟨h1, h2⟩)
theorem rc_lf.s1 {l9 k9 : Nat} {v9 : Int32} {M : pg_M} : rc_lf l9 M (pg_si M 1 k9 v9) := pg_pf.si (Or.inl rfl)
theorem rc_rX.rf {l9 : Nat} {M M' : pg_M} {X9 : rd_X} (hx : rc_rX M l9 X9) (g1 : rc_rf M M') (hl : 3 ≤ l9) : rc_rX M' l9 X9 := by
  refine ⟨hx.1.fr (fun j9 _ _ _ => g1.1.1 _ (by simp; omega)), fun c9 hc => ?_, ?_⟩
  · rw [g1.1.2.1 (l9 + 1) (by simp; omega)]
    exact hx.2.1 c9 hc
  · rw [g1.2 8 (by decide) (by decide) (by decide) (by decide) (by decide) (by decide)]
    exact hx.2.2
def rc_lp (l9 : Nat) (tp : List Nat) (M : pg_M) (x9 : Except Nat (Nat × rd_X)) (M' : pg_M) : Prop := rc_lf l9 M M' ∧ match x9 with
  | .ok y9 => rc_R M' tp (.ok y9.1) ∧ rc_rX M' l9 y9.2
  | .error e9 => rc_R M' tp (.error e9)
/-- a place that is not counted yet -/
theorem rc_rX.new {l9 i9 : Nat} {v9 : Int32} {M : pg_M} {X9 : rd_X} (hx : rc_rX M l9 X9) (hl : 3 ≤ l9) (hi : i9 < 4) : rc_rX (pg_si M (l9 + 2 + i9) (X9.1 4 0) v9) l9 X9 := by
  obtain ⟨⟨a1, a2, a3, a4, a5, a6, a7, a8, a9, a10, a11, a12⟩, b1, b2⟩ := hx
  have ne : ∀ j9, (j9 < 2 ∨ 6 ≤ j9) → (pg_si M (l9 + 2 + i9) (X9.1 4 0) v9).1 (l9 + j9) = M.1 (l9 + j9) := fun j9 hj => pg_si_ne (by omega)
  have n0 : (pg_si M (l9 + 2 + i9) (X9.1 4 0) v9).1 l9 = M.1 l9 := pg_si_ne (by omega)
  have nq : ∀ j9 c9, c9 < X9.1 4 0 → (pg_si M (l9 + 2 + i9) (X9.1 4 0) v9).1 (l9 + j9) c9 = M.1 (l9 + j9) c9 := fun j9 c9 hc => by
    by_cases z9 : l9 + j9 = l9 + 2 + i9
    · rw [z9, pg_si_at, pk_un (by omega)]
    · rw [pg_si_ne z9]
  refine ⟨⟨by rw [n0]; exact a1, by rw [n0]; exact a2, by rw [n0]; exact a3, by rw [n0]; exact a4, by rw [n0]; exact a5, by rw [n0]; exact a6, fun c9 hc => ?_, fun c9 hc => ?_, fun p9 hp => ?_, fun j9 hj => ?_, a11.fr (ne 9 (by omega)) (ne 10 (by omega)), a12.fr (ne 12 (by omega)) (ne 13 (by omega))⟩, fun c9 hc => b1 c9 hc, ?_⟩
  · rw [nq 2 c9 hc, nq 3 c9 hc, nq 4 c9 hc, nq 5 c9 hc]
    exact a7 c9 hc
  · rw [ne 6 (by omega)]; exact a8 c9 hc
  · rw [ne 7 (by omega)]; exact a9 p9 hp
  · rw [ne 8 (by omega)]; exact a10 j9 hj
  · rw [pg_si_ne (by omega)]; exact b2
theorem rc_rX.newj {l9 : Nat} {v9 : Int64} {M : pg_M} {X9 : rd_X} (hx : rc_rX M l9 X9) : rc_rX (pg_sj M (l9 + 1) (X9.1 4 0) v9) l9 X9 := by
  refine ⟨hx.1, fun c9 hc => ?_, hx.2.2⟩
  have : (pg_sj M (l9 + 1) (X9.1 4 0) v9).2.1 (l9 + 1) = vp_updL (M.2.1 (l9 + 1)) (X9.1 4 0) v9 := by simp [pg_sj]
  rw [this, pk_uLn (by omega)]
  exact hx.2.1 c9 hc
section PGR
variable {S : pg_S} {Λ : pg_L} {d k9 l9 : Nat} {M : pg_M} {tp : List Nat} {X9 : rd_X}
theorem rc_namedHere (hX : pg_isX7 Λ) (h5 : pg_isX5 Λ l9) (hk : tk_ok tp) (ho : rd_ok X9) (hR : rc_R M tp (.ok k9)) (hn : M.1 l9 10 = nI (X9.1 4 0)) (hN : rc_N M l9 (X9.1 4 0) X9.2.2.1) : pg_Ev S Λ YX7_namedHere (d + 1) [.ref 1, .ref l9] M (fun r M' => ∃ v, r = some (.int v) ∧ rc_v tp M (rd_told tp X9.2.2.1 (X9.1 4 0) k9) k9 v M') := by
  have f1 := rc_rfail (S := S) (Λ := Λ) (d := d) (n9 := 1) (by omega) (by omega) hX hk hR
  have f2 := rc_rfail (S := S) (Λ := Λ) (d := d) (n9 := 2) (by omega) (by omega) hX hk hR
  have h6 := ho.1.1
  refine oX7_namedHere (sX7_namedHere_0 (Q0 := fun v M' => v = b2i (rd_nm tp k9) ∧ M' = M) (Q1 := fun v M' => rd_nm tp k9 = true ∧ v = rd_fi (rd_find X9.2.2.1 (X9.1 4 0) (tk_tok tp k9).2) ∧ M' = M) (Q2 := fun M' => rc_R M' tp (.error (2 + 16 * tk_place tp k9)) ∧ rc_rf M M') (Q3 := fun M' => rc_R M' tp (.error (1 + 16 * tk_place tp k9)) ∧ rc_rf M M') hX h5 (rc_isName hX hk hR) ?_ ?_ ?_ ?_ ?_ ?_)
  · rintro v9 Mq1 ⟨e8, e9⟩ q9
    rw [e8, b2i_0, Bool.not_eq_false] at q9
    have t2 := rd_nm_2 q9
    rw [e9, (hR.tk.2.1 t2).1]
    refine pg_Ev.imp ?_ (rc_clothNamed (S := S) (d := d) h5 hn h6 hN (fun c9 hc => (ho.2.1.1 c9 hc).2) (tk_t_good t2))
    rintro r9 M9 ⟨v8, y1, y2, y3⟩
    exact ⟨v8, y1, q9, y2, y3⟩
  · rintro v9 Mq1 _ _ v8 Mq2 ⟨q9, e8, e9⟩ q8
    refine ⟨_, rfl, by rw [e9]; exact rc_rf.rfl', ?_⟩
    unfold rd_told
    rw [if_pos q9]
    cases hf : rd_find X9.2.2.1 (X9.1 4 0) (tk_tok tp k9).2 with
    | none => rw [e8, hf] at q8; exact absurd rfl q8
    | some c9 => rw [hf] at e8; rw [e9]; exact ⟨hR, e8⟩
  · rintro v9 Mq1 _ _ v8 Mq2 ⟨q9, e8, e9⟩ q8
    rw [e9]; exact f2
  · rintro v9 Mq1 _ _ v8 Mq2 ⟨q9, e8, e9⟩ q8 Mq3 ⟨g1, g2⟩
    refine ⟨_, rfl, g2, ?_⟩
    unfold rd_told
    rw [if_pos q9]
    cases hf : rd_find X9.2.2.1 (X9.1 4 0) (tk_tok tp k9).2 with
    | none => exact g1
    | some c9 =>
      have := (rd_find_lt hf).1
      have hp := nI_pos (n := c9) (by omega)
      have e7 : v8 = nI c9 := by rw [e8, hf]; rfl
      rw [← e7, q8] at hp
      exact absurd hp (by decide)
  · rintro v9 Mq1 ⟨_, e9⟩ _; rw [e9]; exact f1
  · rintro v9 Mq1 ⟨e8, e9⟩ q9 Mq2 ⟨g1, g2⟩
    rw [e8, b2i_0] at q9
    refine ⟨_, rfl, g2, ?_⟩
    unfold rd_told
    rw [if_neg (by rw [q9]; decide)]
    exact g1
theorem rc_readNamed (hX : pg_isX7 Λ) (h5 : pg_isX5 Λ l9) (hk : tk_ok tp) (ho : rd_ok X9) (hR : rc_R M tp (.ok k9)) (hn : M.1 l9 10 = nI (X9.1 4 0)) (hN : rc_N M l9 (X9.1 4 0) X9.2.2.1) : pg_Ev S Λ YX7_readNamed (d + 4) [.ref 1, .ref l9] M (fun r M' => ∃ v, r = some (.int v) ∧ rc_v tp M (rd_told tp X9.2.2.1 (X9.1 4 0) k9) (k9 + 1) v M') := by
  refine oX7_readNamed (sX7_readNamed_0 (Q0 := fun v M' => rc_v tp M (rd_told tp X9.2.2.1 (X9.1 4 0) k9) k9 v M') (Q1 := fun M' => ∀ v9, (∀ n9, rd_told tp X9.2.2.1 (X9.1 4 0) k9 = .ok n9 → v9 = nI n9) → rc_v tp M (rd_told tp X9.2.2.1 (X9.1 4 0) k9) (k9 + 1) v9 M') hX (pg_Ev.mono (by omega) (rc_namedHere (d := d) hX h5 hk ho hR hn hN)) ?_ ?_)
  · rintro v9 Mq1 ⟨g1, g2⟩
    cases hn : rd_told tp X9.2.2.1 (X9.1 4 0) k9 with
    | error e9 =>
      rw [hn] at g2
      refine pg_Ev.imp ?_ (rc_rnext (S := S) (d := d) hX hk g2)
      rintro q9 M9 ⟨y1, y2, y3⟩
      exact ⟨y1, fun _ _ => ⟨g1.trans y3, y2⟩⟩
    | ok n9 =>
      rw [hn] at g2
      refine pg_Ev.imp ?_ (rc_rnext (S := S) (d := d) hX hk g2.1)
      rintro q9 M9 ⟨y1, y2, y3⟩
      exact ⟨y1, fun w9 hw => ⟨g1.trans y3, y2, hw n9 rfl⟩⟩
  · rintro v9 Mq1 ⟨g1, g2⟩ Mq2 g3
    refine ⟨_, rfl, g3 v9 (fun n9 hn => ?_)⟩
    rw [hn] at g2
    exact g2.2
/-- so far a cloth is read: its kind and i9 - 1 measures -/
def rc_st (l9 k9 : Nat) (tp : List Nat) (X9 : rd_X) (w9 : List Nat) (M : pg_M) (i9 : Nat) (x9 : Except Nat (Nat → Nat)) (M' : pg_M) : Prop := rc_lf l9 M M' ∧ match x9 with
  | .error e9 => rc_R M' tp (.error e9)
  | .ok g9 => rc_R M' tp (.ok (k9 + 1 + 2 * i9)) ∧ rc_rX M' l9 X9 ∧ M'.2.1 (l9 + 1) (X9.1 4 0) = lN (sp_w 32 w9) ∧ ∀ j9, j9 < i9 → M'.1 (l9 + 2 + j9) (X9.1 4 0) = nI (g9 j9)
def rd_nx (tp : List Nat) (i9 lo hi k9 : Nat) (x9 : Except Nat (Nat → Nat)) : Except Nat (Nat → Nat) := rd_b x9 (fun g9 => rd_b (rd_meas tp i9 lo hi (k9 + 1 + 2 * i9)) (fun a9 => .ok (fun j9 => if j9 = i9 then a9 else g9 j9)))
theorem rc_step {i9 lo hi : Nat} {w9 : List Nat} {x9 : Except Nat (Nat → Nat)} {Mq1 : pg_M} (hl : 3 ≤ l9) (hi1 : 1 ≤ i9) (hi3 : i9 ≤ 3) (hlo : lo < 2 ^ 31) (hhi : hi < 2 ^ 31) (hX : pg_isX7 Λ) (hk : tk_ok tp) (hs : rc_st l9 k9 tp X9 w9 M i9 x9 Mq1) : pg_Ev S Λ YX7_readMeasure (d + 5) [.ref 1, .int (nI i9), .int (nI lo), .int (nI hi)] Mq1 (fun r M' => ∃ v, r = some (.int v) ∧ rc_st l9 k9 tp X9 w9 M (i9 + 1) (rd_nx tp i9 lo hi k9 x9) (pg_si M' (l9 + 2 + i9) (X9.1 4 0) v)) := by
  obtain ⟨s1, s2⟩ := hs
  cases x9 with
  | error e9 =>
    refine pg_Ev.imp ?_ (rc_readMeasure_e (S := S) (d := d) hX hk s2)
    rintro q9 M9 ⟨v9, y1, y2, y3⟩
    exact ⟨v9, y1, (s1.trans y3.lf).trans (rc_lf.si (by omega) (by omega)), y2.si (by omega)⟩
  | ok g9 =>
    obtain ⟨t1, t2, t3, t4⟩ := s2
    refine pg_Ev.imp ?_ (rc_readMeasure (S := S) (d := d) (w9 := i9) (by omega) hlo hhi hX hk t1)
    rintro q9 M9 ⟨v9, y1, y2, y3⟩
    refine ⟨v9, y1, (s1.trans y2.lf).trans (rc_lf.si (by omega) (by omega)), ?_⟩
    unfold rd_nx
    rw [rd_b_ok]
    cases hm : rd_meas tp i9 lo hi (k9 + 1 + 2 * i9) with
    | error e9 => rw [hm] at y3; exact y3.si (by omega)
    | ok a9 =>
      rw [hm] at y3
      refine ⟨y3.1.si (by omega), (t2.rf y2 hl).new hl (by omega), ?_, fun j9 hj => ?_⟩
      · show M9.2.1 (l9 + 1) (X9.1 4 0) = _
        rw [y2.1.2.1 (l9 + 1) (by simp; omega)]; exact t3
      · by_cases z9 : j9 = i9
        · subst z9
          rw [pg_si_at, pk_us, y3.2]
          show nI a9 = nI (if j9 = j9 then a9 else g9 j9)
          rw [if_pos rfl]
        · rw [pg_si_ne (by omega), y2.1.1 _ (by simp; omega)]
          show _ = nI (if j9 = i9 then a9 else g9 j9)
          rw [if_neg z9]
          exact t4 j9 (by omega)
/-- the cloth is counted -/
theorem rc_rX.add {g9 : Nat → Nat} {w9 : List Nat} {Mq1 : pg_M} (hl : 3 ≤ l9) (h6 : X9.1 4 0 < 6) (hx : rc_rX Mq1 l9 X9) (t3 : Mq1.2.1 (l9 + 1) (X9.1 4 0) = lN (sp_w 32 w9)) (t4 : ∀ j9, j9 < 4 → Mq1.1 (l9 + 2 + j9) (X9.1 4 0) = nI (g9 j9)) : rc_rX (pg_si Mq1 l9 10 ((Mq1.1 l9 10) + 1)) l9 (rd_addc X9 w9 (g9 0) (g9 1) (g9 2) (g9 3)) := by
  obtain ⟨⟨a1, a2, a3, a4, a5, a6, a7, a8, a9, a10, a11, a12⟩, b1, b2⟩ := hx
  have ne : ∀ j9, 1 ≤ j9 → (pg_si Mq1 l9 10 ((Mq1.1 l9 10) + 1)).1 (l9 + j9) = Mq1.1 (l9 + j9) := fun j9 hj => pg_si_ne (by omega)
  have n0 : ∀ j9, j9 ≠ 10 → (pg_si Mq1 l9 10 ((Mq1.1 l9 10) + 1)).1 l9 j9 = Mq1.1 l9 j9 := fun j9 hj => by rw [pg_si_at, pk_un hj]
  have l40 : (rd_addc X9 w9 (g9 0) (g9 1) (g9 2) (g9 3)).1 4 0 = X9.1 4 0 + 1 := by simp [rd_addc, sp_up]
  have l4 : ∀ i9, i9 ≠ 0 → (rd_addc X9 w9 (g9 0) (g9 1) (g9 2) (g9 3)).1 4 i9 = X9.1 4 i9 := fun i9 z9 => by simp [rd_addc, sp_up, z9]
  have l5 : ∀ i9, (rd_addc X9 w9 (g9 0) (g9 1) (g9 2) (g9 3)).1 5 i9 = X9.1 5 i9 := fun i9 => by simp [rd_addc, sp_up]
  have l6 : ∀ i9, (rd_addc X9 w9 (g9 0) (g9 1) (g9 2) (g9 3)).1 6 i9 = X9.1 6 i9 := fun i9 => by simp [rd_addc, sp_up]
  have l7 : ∀ i9, (rd_addc X9 w9 (g9 0) (g9 1) (g9 2) (g9 3)).1 7 i9 = X9.1 7 i9 := fun i9 => by simp [rd_addc, sp_up]
  refine ⟨⟨?_, ?_, ?_, ?_, ?_, ?_, fun c9 hc => ?_, fun c9 hc => ?_, fun p9 hp => ?_, fun j9 hj => ?_, a11.fr (ne 9 (by omega)) (ne 10 (by omega)), a12.fr (ne 12 (by omega)) (ne 13 (by omega))⟩, fun c9 hc => ?_, ?_⟩
  · rw [pg_si_at, pk_us, a1, nI_1, l40]
  · rw [n0 11 (by decide), l4 4 (by decide)]; exact a2
  · rw [n0 12 (by decide), l4 3 (by decide)]; exact a3
  · rw [n0 13 (by decide), l4 1 (by decide)]; exact a4
  · rw [n0 14 (by decide), l4 2 (by decide)]; exact a5
  · rw [n0 15 (by decide), l4 5 (by decide)]; exact a6
  · rw [l40] at hc
    rw [ne 2 (by omega), ne 3 (by omega), ne 4 (by omega), ne 5 (by omega)]
    by_cases z9 : c9 = X9.1 4 0
    · subst z9
      have u0 := t4 0 (by omega)
      have u1 := t4 1 (by omega)
      have u2 := t4 2 (by omega)
      have u3 := t4 3 (by omega)
      rw [show l9 + 2 + 0 = l9 + 2 by omega] at u0
      rw [show l9 + 2 + 1 = l9 + 3 by omega] at u1
      rw [show l9 + 2 + 2 = l9 + 4 by omega] at u2
      rw [show l9 + 2 + 3 = l9 + 5 by omega] at u3
      rw [u0, u1, u2, u3]
      simp [rd_addc, sp_up]
    · have := a7 c9 (by omega)
      rw [this.1, this.2.1, this.2.2.1, this.2.2.2]
      simp [rd_addc, sp_up, z9]
  · rw [ne 6 (by omega), a8 c9 hc]
    simp only [l6]
  · rw [l4 4 (by decide)] at hp
    rw [ne 7 (by omega), l7]; exact a9 p9 hp
  · rw [l4 3 (by decide)] at hj
    rw [ne 8 (by omega), l5]; exact a10 j9 hj
  · rw [l40] at hc
    show Mq1.2.1 (l9 + 1) c9 = lN (sp_w 32 (if c9 = X9.1 4 0 then w9 else X9.2.2.1 c9))
    by_cases z9 : c9 = X9.1 4 0
    · rw [if_pos z9, z9]; exact t3
    · rw [if_neg z9]; exact b1 c9 (by omega)
  · rw [pg_si_ne (by omega)]; exact b2
end PGR
