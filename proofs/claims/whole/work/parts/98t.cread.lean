/-! LINES: the class reads a cloth -/
section PGR
variable {S : pg_S} {Λ : pg_L} {d k9 l9 : Nat} {M : pg_M} {tp : List Nat} {X9 : rd_X}
def rd_fin (k9 : Nat) (X9 : rd_X) (w9 : List Nat) (x9 : Except Nat (Nat → Nat)) : Except Nat (Nat × rd_X) := rd_b x9 (fun g9 => .ok (k9 + 9, rd_addc X9 w9 (g9 0) (g9 1) (g9 2) (g9 3)))
def rd_kind (tp : List Nat) (k9 : Nat) : Except Nat (Nat → Nat) := match tk_wd (tk_tok tp k9) with
  | none => rd_e tp 1 k9
  | some j9 => if 16 ≤ j9 ∧ j9 ≤ 19 then .ok (fun _ => j9 - 16) else rd_e tp 1 k9
theorem rd_cloth_eq (n6 : X9.1 4 0 ≠ 6) (hnm : rd_nm tp (k9 + 1) = true) (hfi : rd_find X9.2.2.1 (X9.1 4 0) (tk_tok tp (k9 + 1)).2 = none) : rd_cloth tp k9 X9 = rd_fin k9 X9 (tk_tok tp (k9 + 1)).2 (rd_nx tp 3 0 99 k9 (rd_nx tp 2 0 20 k9 (rd_nx tp 1 1 20 k9 (rd_kind tp (k9 + 2))))) := by
  unfold rd_cloth rd_kind
  rw [if_neg n6, if_neg (by rw [hnm]; decide), if_neg (by rw [hfi]; decide)]
  cases hw : tk_wd (tk_tok tp (k9 + 2)) with
  | none => rfl
  | some j9 =>
    by_cases c9 : 16 ≤ j9 ∧ j9 ≤ 19
    · show (if 16 ≤ j9 ∧ j9 ≤ 19 then _ else rd_e tp 1 (k9 + 2)) = rd_fin k9 X9 (tk_tok tp (k9 + 1)).2 (rd_nx tp 3 0 99 k9 (rd_nx tp 2 0 20 k9 (rd_nx tp 1 1 20 k9 (if 16 ≤ j9 ∧ j9 ≤ 19 then .ok (fun _ => j9 - 16) else rd_e tp 1 (k9 + 2)))))
      rw [if_pos c9, if_pos c9]
      unfold rd_nx
      rw [rd_b_ok, show k9 + 1 + 2 * 1 = k9 + 3 by omega, show k9 + 1 + 2 * 2 = k9 + 5 by omega, show k9 + 1 + 2 * 3 = k9 + 7 by omega]
      cases rd_meas tp 1 1 20 (k9 + 3) with
      | error e9 => rfl
      | ok a9 =>
        cases hb : rd_meas tp 2 0 20 (k9 + 5) with
        | error e9 => rfl
        | ok b9 =>
          cases hc : rd_meas tp 3 0 99 (k9 + 7) with
          | error e9 => rfl
          | ok c8 => rfl
    · show (if 16 ≤ j9 ∧ j9 ≤ 19 then _ else rd_e tp 1 (k9 + 2)) = rd_fin k9 X9 (tk_tok tp (k9 + 1)).2 (rd_nx tp 3 0 99 k9 (rd_nx tp 2 0 20 k9 (rd_nx tp 1 1 20 k9 (if 16 ≤ j9 ∧ j9 ≤ 19 then .ok (fun _ => j9 - 16) else rd_e tp 1 (k9 + 2)))))
      rw [if_neg c9, if_neg c9]; rfl
/-- behind the name -/
theorem rc_c53 {w9 : List Nat} {z9 : tk_st} {x1 : Except Nat (Nat → Nat)} {Mq1 : pg_M} (hl : 3 ≤ l9) (h6 : X9.1 4 0 < 6) (hX : pg_isX7 Λ) (h5 : pg_isX5 Λ l9) (hk : tk_ok tp) (hf : rc_lf l9 M Mq1) (hR : rc_R Mq1 tp z9)
    (hz : (∃ e9, z9 = .error e9 ∧ x1 = .error e9) ∨ (z9 = .ok (k9 + 1) ∧ x1 = rd_kind tp (k9 + 2) ∧ rc_rX Mq1 l9 X9 ∧ Mq1.2.1 1 6 = lN (sp_w 32 w9))) :
    pg_At S Λ YX7_readCloth (d + 6) 53 [(0, .ref 1), (1, .ref l9), (2, .int (nI (X9.1 4 0)))] [] Mq1 (fun q M' => q = none ∧ rc_lp l9 tp M (rd_fin k9 X9 w9 (rd_nx tp 3 0 99 k9 (rd_nx tp 2 0 20 k9 (rd_nx tp 1 1 20 k9 x1)))) M') := by
  have hcl : (nI (X9.1 4 0)).toNatClampNeg = X9.1 4 0 := nI_clamp (by omega)
  have m1 : ∀ Mq, rc_st l9 k9 tp X9 w9 M 1 x1 Mq → pg_Ev S Λ YX7_readMeasure (d + 5) [.ref 1, .int 1, .int 1, .int 20] Mq (fun r M' => ∃ v, r = some (.int v) ∧ rc_st l9 k9 tp X9 w9 M 2 (rd_nx tp 1 1 20 k9 x1) (pg_si M' (l9 + 3) (X9.1 4 0) v)) := fun Mq hs => rc_step (i9 := 1) (lo := 1) (hi := 20) hl (by omega) (by omega) (by omega) (by omega) hX hk hs
  have m2 : ∀ Mq, rc_st l9 k9 tp X9 w9 M 2 (rd_nx tp 1 1 20 k9 x1) Mq → pg_Ev S Λ YX7_readMeasure (d + 5) [.ref 1, .int 2, .int 0, .int 20] Mq (fun r M' => ∃ v, r = some (.int v) ∧ rc_st l9 k9 tp X9 w9 M 3 (rd_nx tp 2 0 20 k9 (rd_nx tp 1 1 20 k9 x1)) (pg_si M' (l9 + 4) (X9.1 4 0) v)) := fun Mq hs => rc_step (i9 := 2) (lo := 0) (hi := 20) hl (by omega) (by omega) (by omega) (by omega) hX hk hs
  have m3 : ∀ Mq, rc_st l9 k9 tp X9 w9 M 3 (rd_nx tp 2 0 20 k9 (rd_nx tp 1 1 20 k9 x1)) Mq → pg_Ev S Λ YX7_readMeasure (d + 5) [.ref 1, .int 3, .int 0, .int 99] Mq (fun r M' => ∃ v, r = some (.int v) ∧ rc_st l9 k9 tp X9 w9 M 4 (rd_nx tp 3 0 99 k9 (rd_nx tp 2 0 20 k9 (rd_nx tp 1 1 20 k9 x1))) (pg_si M' (l9 + 5) (X9.1 4 0) v)) := fun Mq hs => rc_step (i9 := 3) (lo := 0) (hi := 99) hl (by omega) (by omega) (by omega) (by omega) hX hk hs
  have fin9 : ∀ Mq, rc_st l9 k9 tp X9 w9 M 4 (rd_nx tp 3 0 99 k9 (rd_nx tp 2 0 20 k9 (rd_nx tp 1 1 20 k9 x1))) Mq → (none : Option Value) = none ∧ rc_lp l9 tp M (rd_fin k9 X9 w9 (rd_nx tp 3 0 99 k9 (rd_nx tp 2 0 20 k9 (rd_nx tp 1 1 20 k9 x1)))) (pg_si Mq l9 10 ((Mq.1 l9 10) + 1)) := by
    rintro Mq ⟨s1, s2⟩
    refine ⟨rfl, s1.trans (rc_lf.si (by omega) (by omega)), ?_⟩
    cases hq : rd_nx tp 3 0 99 k9 (rd_nx tp 2 0 20 k9 (rd_nx tp 1 1 20 k9 x1)) with
    | error e9 => rw [hq] at s2; exact s2.si hl
    | ok g9 =>
      rw [hq] at s2
      obtain ⟨t1, t2, t3, t4⟩ := s2
      exact ⟨t1.si hl, t2.add hl h6 t3 t4⟩
  -- behind the next one
  have nx : pg_Ev S Λ YX7_next (d + 5) [.ref 1] (pg_sj Mq1 (l9 + 1) (X9.1 4 0) (Mq1.2.1 1 6)) (fun r M' => r = none ∧ (rc_R M' tp (tk_next z9) ∧ rc_lf l9 M M' ∧ rc_rf (pg_sj Mq1 (l9 + 1) (X9.1 4 0) (Mq1.2.1 1 6)) M')) := by
    refine pg_Ev.imp ?_ (rc_rnext (S := S) (d := d + 2) hX hk (hR.sj (by omega)))
    rintro q9 M9 ⟨y1, y2, y3⟩
    exact ⟨y1, y2, (hf.trans (rc_lf.sj (by omega) (by omega))).trans y3.lf, y3⟩
  -- a kind that is none
  have bad1 : ∀ Mq2, (∀ e9, rd_kind tp (k9 + 2) = .error e9 ∨ z9 ≠ .ok (k9 + 1) → True) → rc_R Mq2 tp (tk_next z9) ∧ rc_lf l9 M Mq2 ∧ rc_rf (pg_sj Mq1 (l9 + 1) (X9.1 4 0) (Mq1.2.1 1 6)) Mq2 → pg_Ev S Λ YX7_fail (d + 5) [.ref 1, .int 1] Mq2 (fun r M' => r = none ∧ (rc_R M' tp (tk_fail tp 1 (tk_next z9)) ∧ rc_lf l9 M M')) := by
    rintro Mq2 _ ⟨g1, g2, g3⟩
    refine pg_Ev.imp ?_ (rc_rfail (S := S) (d := d + 5) (n9 := 1) (by omega) (by omega) hX hk g1)
    rintro q9 M9 ⟨y1, y2, y3⟩
    exact ⟨y1, y2, g2.trans y3.lf⟩
  have nx2 : ∀ (Mq3 : pg_M) (e9 : Nat) (v9 : Int32), x1 = .error e9 → rc_R Mq3 tp (.error e9) → rc_lf l9 M Mq3 → pg_Ev S Λ YX7_next (d + 5) [.ref 1] (pg_si Mq3 (l9 + 2) (X9.1 4 0) v9) (fun r M' => r = none ∧ rc_st l9 k9 tp X9 w9 M 1 x1 M') := by
    rintro Mq3 e9 v9 hx1 g1 g2
    refine pg_Ev.imp ?_ (rc_rnext (S := S) (d := d + 2) hX hk (g1.si (a9 := l9 + 2) (k9 := X9.1 4 0) (v9 := v9) (by omega)))
    rintro q9 M9 ⟨y1, y2, y3⟩
    refine ⟨y1, (g2.trans (rc_lf.si (by omega) (by omega))).trans y3.lf, ?_⟩
    rw [hx1]; exact y2
  have bz : ∀ Mq2, rc_R Mq2 tp (tk_next z9) ∧ rc_lf l9 M Mq2 ∧ rc_rf (pg_sj Mq1 (l9 + 1) (X9.1 4 0) (Mq1.2.1 1 6)) Mq2 → (¬ (Mq2.1 1 4 = 2 ∧ ¬ Mq2.1 1 7 < 16 ∧ Mq2.1 1 7 ≤ 19)) → ∃ e9, x1 = .error e9 ∧ tk_fail tp 1 (tk_next z9) = .error e9 := by
    rintro Mq2 ⟨g1, _, _⟩ hno
    rcases hz with ⟨e9, a1, a2⟩ | ⟨a1, a2, _, _⟩
    · exact ⟨e9, a2, by rw [a1]; rfl⟩
    · refine ⟨1 + 16 * tk_place tp (k9 + 2), ?_, by rw [a1]; rfl⟩
      rw [a1] at g1
      have g1 : rc_R Mq2 tp (.ok (k9 + 2)) := g1
      rw [a2]
      unfold rd_kind
      cases hw : tk_wd (tk_tok tp (k9 + 2)) with
      | none => rfl
      | some j9 =>
        show (if 16 ≤ j9 ∧ j9 ≤ 19 then _ else rd_e tp 1 (k9 + 2)) = _
        have jl := tk_wd_lt hw
        rw [if_neg]
        · rfl
        · intro c9
          have t2 := tk_wd_2 hw
          have q4 := (g1.tk.s0 (c9 := 2) hk (by omega)).mpr t2
          have q7 := (g1.tk.wj t2 jl).mpr hw
          refine hno ⟨q4, ?_, ?_⟩
          · rw [q7, show (16 : Int32) = nI 16 from rfl, nI_ltI (by omega) (by decide)]; omega
          · rw [q7, show (19 : Int32) = nI 19 from rfl, nI_leI (by omega) (by decide)]; omega
  have good : ∀ Mq2, rc_R Mq2 tp (tk_next z9) ∧ rc_lf l9 M Mq2 ∧ rc_rf (pg_sj Mq1 (l9 + 1) (X9.1 4 0) (Mq1.2.1 1 6)) Mq2 → Mq2.1 1 4 = 2 → ¬ Mq2.1 1 7 < 16 → Mq2.1 1 7 ≤ 19 → pg_Ev S Λ YX7_next (d + 5) [.ref 1] (pg_si Mq2 (l9 + 2) (X9.1 4 0) ((Mq2.1 1 7) - 16)) (fun r M' => r = none ∧ rc_st l9 k9 tp X9 w9 M 1 x1 M') := by
    rintro Mq2 ⟨g1, g2, g3⟩ q1 q2 q3
    refine pg_Ev.imp ?_ (rc_rnext (S := S) (d := d + 2) hX hk (g1.si (a9 := l9 + 2) (k9 := X9.1 4 0) (v9 := (Mq2.1 1 7) - 16) (by omega)))
    rintro q9 M9 ⟨y1, y2, y3⟩
    refine ⟨y1, (g2.trans (rc_lf.si (by omega) (by omega))).trans y3.lf, ?_⟩
    rcases hz with ⟨e9, a1, a2⟩ | ⟨a1, a2, a3, a4⟩
    · rw [a2]; rw [a1] at y2; exact y2
    · rw [a1] at g1 y2
      have g1 : rc_R Mq2 tp (.ok (k9 + 2)) := g1
      have t2 := (g1.tk.s0 (c9 := 2) hk (by omega)).mp q1
      have mw := g1.tk.w t2
      cases hw : tk_wd (tk_tok tp (k9 + 2)) with
      | none =>
        rw [hw] at mw
        rw [show Mq2.1 1 7 = -1 from mw] at q2
        exact absurd q2 (by decide)
      | some j9 =>
        rw [hw] at mw
        have mw : Mq2.1 1 7 = nI j9 := mw
        have jl := tk_wd_lt hw
        rw [mw, show (16 : Int32) = nI 16 from rfl, nI_ltI (by omega) (by decide)] at q2
        rw [mw, show (19 : Int32) = nI 19 from rfl, nI_leI (by omega) (by decide)] at q3
        have ek : x1 = .ok (fun _ => j9 - 16) := by
          rw [a2]
          unfold rd_kind
          rw [hw]
          show (if 16 ≤ j9 ∧ j9 ≤ 19 then _ else rd_e tp 1 (k9 + 2)) = _
          rw [if_pos (by omega)]
        rw [ek]
        have g4 : rc_rX (pg_sj Mq1 (l9 + 1) (X9.1 4 0) (Mq1.2.1 1 6)) l9 X9 := a3.newj
        have g5 : rc_rX Mq2 l9 X9 := g4.rf g3 hl
        have g6 : rc_rX (pg_si Mq2 (l9 + 2) (X9.1 4 0) ((Mq2.1 1 7) - 16)) l9 X9 := g5.new (i9 := 0) hl (by omega)
        refine ⟨y2, g6.rf y3 hl, ?_, fun j8 hj => ?_⟩
        · rw [y3.1.2.1 (l9 + 1) (by simp; omega)]
          show Mq2.2.1 (l9 + 1) (X9.1 4 0) = _
          rw [g3.1.2.1 (l9 + 1) (by simp; omega)]
          have : (pg_sj Mq1 (l9 + 1) (X9.1 4 0) (Mq1.2.1 1 6)).2.1 (l9 + 1) = vp_updL (Mq1.2.1 (l9 + 1)) (X9.1 4 0) (Mq1.2.1 1 6) := by simp [pg_sj]
          rw [this, pk_uLs]; exact a4
        · obtain rfl : j8 = 0 := by omega
          rw [y3.1.1 _ (by simp)]
          show (pg_si Mq2 (l9 + 2) (X9.1 4 0) ((Mq2.1 1 7) - 16)).1 (l9 + 2) (X9.1 4 0) = nI (j9 - 16)
          rw [pg_si_at, pk_us, mw, show (16 : Int32) = nI 16 from rfl, pk_sub (by omega)]
  refine sX7_readCloth_53 (Q0 := fun M' => rc_R M' tp (tk_next z9) ∧ rc_lf l9 M M' ∧ rc_rf (pg_sj Mq1 (l9 + 1) (X9.1 4 0) (Mq1.2.1 1 6)) M')
    (Q1 := fun M' => rc_R M' tp (tk_fail tp 1 (tk_next z9)) ∧ rc_lf l9 M M') (Q2 := fun M' => rc_st l9 k9 tp X9 w9 M 1 x1 M') (Q3 := fun v M' => rc_st l9 k9 tp X9 w9 M 2 (rd_nx tp 1 1 20 k9 x1) (pg_si M' (l9 + 3) (X9.1 4 0) v)) (Q4 := fun v M' => rc_st l9 k9 tp X9 w9 M 3 (rd_nx tp 2 0 20 k9 (rd_nx tp 1 1 20 k9 x1)) (pg_si M' (l9 + 4) (X9.1 4 0) v)) (Q5 := fun v M' => rc_st l9 k9 tp X9 w9 M 4 (rd_nx tp 3 0 99 k9 (rd_nx tp 2 0 20 k9 (rd_nx tp 1 1 20 k9 x1))) (pg_si M' (l9 + 5) (X9.1 4 0) v))
    (Q6 := fun M' => rc_R M' tp (tk_fail tp 1 (tk_next z9)) ∧ rc_lf l9 M M') (Q7 := fun M' => rc_st l9 k9 tp X9 w9 M 1 x1 M') (Q8 := fun v M' => rc_st l9 k9 tp X9 w9 M 2 (rd_nx tp 1 1 20 k9 x1) (pg_si M' (l9 + 3) (X9.1 4 0) v)) (Q9 := fun v M' => rc_st l9 k9 tp X9 w9 M 3 (rd_nx tp 2 0 20 k9 (rd_nx tp 1 1 20 k9 x1)) (pg_si M' (l9 + 4) (X9.1 4 0) v)) (Q10 := fun v M' => rc_st l9 k9 tp X9 w9 M 4 (rd_nx tp 3 0 99 k9 (rd_nx tp 2 0 20 k9 (rd_nx tp 1 1 20 k9 x1))) (pg_si M' (l9 + 5) (X9.1 4 0) v))
    (Q11 := fun M' => rc_st l9 k9 tp X9 w9 M 1 x1 M') (Q12 := fun v M' => rc_st l9 k9 tp X9 w9 M 2 (rd_nx tp 1 1 20 k9 x1) (pg_si M' (l9 + 3) (X9.1 4 0) v)) (Q13 := fun v M' => rc_st l9 k9 tp X9 w9 M 3 (rd_nx tp 2 0 20 k9 (rd_nx tp 1 1 20 k9 x1)) (pg_si M' (l9 + 4) (X9.1 4 0) v)) (Q14 := fun v M' => rc_st l9 k9 tp X9 w9 M 4 (rd_nx tp 3 0 99 k9 (rd_nx tp 2 0 20 k9 (rd_nx tp 1 1 20 k9 x1))) (pg_si M' (l9 + 5) (X9.1 4 0) v))
    (Q15 := fun M' => rc_R M' tp (tk_fail tp 1 (tk_next z9)) ∧ rc_lf l9 M M') (Q16 := fun M' => rc_st l9 k9 tp X9 w9 M 1 x1 M') (Q17 := fun v M' => rc_st l9 k9 tp X9 w9 M 2 (rd_nx tp 1 1 20 k9 x1) (pg_si M' (l9 + 3) (X9.1 4 0) v)) (Q18 := fun v M' => rc_st l9 k9 tp X9 w9 M 3 (rd_nx tp 2 0 20 k9 (rd_nx tp 1 1 20 k9 x1)) (pg_si M' (l9 + 4) (X9.1 4 0) v)) (Q19 := fun v M' => rc_st l9 k9 tp X9 w9 M 4 (rd_nx tp 3 0 99 k9 (rd_nx tp 2 0 20 k9 (rd_nx tp 1 1 20 k9 x1))) (pg_si M' (l9 + 5) (X9.1 4 0) v))
    h5 hX (vp_in_nI h6 (by decide)) (by rw [hcl]; exact nx) ?_ ?_ ?_ ?_ ?_ ?_ ?_ ?_ ?_ ?_ ?_ ?_ ?_ ?_ ?_ ?_ ?_ ?_ ?_ ?_ ?_ ?_ ?_
  · rintro Mq2 g9 _; exact bad1 Mq2 (fun _ _ => trivial) g9
  · rintro Mq2 g9 q9 Mq3 ⟨g1, g2⟩
    obtain ⟨e9, b1, b2⟩ := bz Mq2 g9 (fun c => q9 c.1)
    rw [hcl]; rw [b2] at g1
    exact nx2 Mq3 e9 _ b1 g1 g2
  · rintro Mq2 _ _ Mq3 _ Mq4 g9; exact m1 Mq4 g9
  · rintro Mq2 _ _ Mq3 _ Mq4 _ v9 Mq5 g9; rw [hcl]; exact m2 _ g9
  · rintro Mq2 _ _ Mq3 _ Mq4 _ v9 Mq5 _ v8 Mq6 g9; rw [hcl]; exact m3 _ g9
  · rintro Mq2 _ _ Mq3 _ Mq4 _ v9 Mq5 _ v8 Mq6 _ v7 Mq7 g9; rw [hcl]; exact fin9 _ g9
  · rintro Mq2 g9 _ _; exact bad1 Mq2 (fun _ _ => trivial) g9
  · rintro Mq2 g9 q9 q8 Mq3 ⟨g1, g2⟩
    obtain ⟨e9, b1, b2⟩ := bz Mq2 g9 (fun c => c.2.1 q8)
    rw [hcl]; rw [b2] at g1
    exact nx2 Mq3 e9 _ b1 g1 g2
  · rintro Mq2 _ _ _ Mq3 _ Mq4 g9; exact m1 Mq4 g9
  · rintro Mq2 _ _ _ Mq3 _ Mq4 _ v9 Mq5 g9; rw [hcl]; exact m2 _ g9
  · rintro Mq2 _ _ _ Mq3 _ Mq4 _ v9 Mq5 _ v8 Mq6 g9; rw [hcl]; exact m3 _ g9
  · rintro Mq2 _ _ _ Mq3 _ Mq4 _ v9 Mq5 _ v8 Mq6 _ v7 Mq7 g9 Nq e9; rw [e9, hcl]; exact fin9 _ g9
  · rintro Mq2 g9 q1 q2 q3; rw [hcl]; exact good Mq2 g9 q1 q2 q3
  · rintro Mq2 _ _ _ _ Mq4 g9; exact m1 Mq4 g9
  · rintro Mq2 _ _ _ _ Mq4 _ v9 Mq5 g9; rw [hcl]; exact m2 _ g9
  · rintro Mq2 _ _ _ _ Mq4 _ v9 Mq5 _ v8 Mq6 g9; rw [hcl]; exact m3 _ g9
  · rintro Mq2 _ _ _ _ Mq4 _ v9 Mq5 _ v8 Mq6 _ v7 Mq7 g9 Nq e9; rw [e9, hcl]; exact fin9 _ g9
  · rintro Mq2 g9 _ _ _; exact bad1 Mq2 (fun _ _ => trivial) g9
  · rintro Mq2 g9 q9 q8 q7 Mq3 ⟨g1, g2⟩
    obtain ⟨e9, b1, b2⟩ := bz Mq2 g9 (fun c => q7 c.2.2)
    rw [hcl]; rw [b2] at g1
    exact nx2 Mq3 e9 _ b1 g1 g2
  · rintro Mq2 _ _ _ _ Mq3 _ Mq4 g9; exact m1 Mq4 g9
  · rintro Mq2 _ _ _ _ Mq3 _ Mq4 _ v9 Mq5 g9; rw [hcl]; exact m2 _ g9
  · rintro Mq2 _ _ _ _ Mq3 _ Mq4 _ v9 Mq5 _ v8 Mq6 g9; rw [hcl]; exact m3 _ g9
  · rintro Mq2 _ _ _ _ Mq3 _ Mq4 _ v9 Mq5 _ v8 Mq6 _ v7 Mq7 g9 Nq e9; rw [e9, hcl]; exact fin9 _ g9
theorem rc_readCloth (hl : 3 ≤ l9) (hX : pg_isX7 Λ) (h5 : pg_isX5 Λ l9) (hk : tk_ok tp) (ho : rd_ok X9) (hR : rc_R M tp (.ok k9)) (hx : rc_rX M l9 X9) : pg_Ev S Λ YX7_readCloth (d + 6) [.ref 1, .ref l9] M (fun q M' => q = none ∧ rc_lp l9 tp M (rd_cloth tp k9 X9) M') := by
  have h6 := ho.1.1
  have hn : M.1 l9 10 = nI (X9.1 4 0) := hx.1.1
  have i6 : (M.1 l9 10 < 6) ↔ X9.1 4 0 < 6 := by rw [hn, show (6 : Int32) = nI 6 from rfl, nI_ltI (by omega) (by decide)]
  by_cases c6 : X9.1 4 0 < 6
  · have q6 := i6.mpr c6
    have er : ∀ m9 Mq1, (rd_cloth tp k9 X9 = .error (m9 + 16 * tk_place tp (k9 + 1))) → rc_R Mq1 tp (.error (m9 + 16 * tk_place tp (k9 + 1))) → rc_lf l9 M Mq1 → pg_At S Λ YX7_readCloth (d + 6) 53 [(0, .ref 1), (1, .ref l9), (2, .int (M.1 l9 10))] [] Mq1 (fun q M' => q = none ∧ rc_lp l9 tp M (rd_cloth tp k9 X9) M') := fun m9 Mq1 e9 g1 g2 => by
      rw [hn, e9]
      exact rc_c53 (k9 := k9) (w9 := []) (x1 := .error (m9 + 16 * tk_place tp (k9 + 1))) (X9 := X9) hl c6 hX h5 hk g2 g1 (Or.inl ⟨_, rfl, rfl⟩)
    refine oX7_readCloth (sX7_readCloth_0 (Q0 := fun M' => rc_R M' tp (.ok (k9 + 1)) ∧ rc_rf M M') (Q1 := fun v M' => v = b2i (rd_nm tp (k9 + 1)) ∧ rc_R M' tp (.ok (k9 + 1)) ∧ rc_rf M M') (Q2 := fun v M' => rd_nm tp (k9 + 1) = true ∧ v = rd_fi (rd_find X9.2.2.1 (X9.1 4 0) (tk_tok tp (k9 + 1)).2) ∧ rc_R M' tp (.ok (k9 + 1)) ∧ rc_rf M M') (Q3 := fun M' => rc_R M' tp (.error (3 + 16 * tk_place tp (k9 + 1))) ∧ rc_lf l9 M M') (Q4 := fun M' => rc_R M' tp (.error (1 + 16 * tk_place tp (k9 + 1))) ∧ rc_lf l9 M M') (Q5 := fun _ => True) h5 hX (fun _ => pg_Ev.mono (by omega) (rc_rnext (d := d) hX hk hR)) ?_ ?_ ?_ ?_ ?_ ?_ ?_ (fun c => absurd q6 c) (fun c => absurd q6 c))
    · rintro _ Mq1 ⟨g1, g2⟩
      refine pg_Ev.imp ?_ (rc_isName (S := S) (d := d + 5) hX hk g1)
      rintro q9 M9 ⟨v9, y1, y2, y3⟩
      exact ⟨v9, y1, y2, by rw [y3]; exact g1, by rw [y3]; exact g2⟩
    · rintro _ Mq1 _ v9 Mq2 ⟨e8, g1, g2⟩ q9
      rw [e8, b2i_0, Bool.not_eq_false] at q9
      have t2 := rd_nm_2 q9
      rw [(g1.tk.2.1 t2).1]
      have hx2 := hx.rf g2 hl
      refine pg_Ev.imp ?_ (rc_clothNamed (S := S) (d := d + 5) h5 hx2.1.1 h6 hx2.2.1 (fun c9 hc => (ho.2.1.1 c9 hc).2) (tk_t_good t2))
      rintro r9 M9 ⟨v8, y1, y2, y3⟩
      exact ⟨v8, y1, q9, y2, by rw [y3]; exact g1, by rw [y3]; exact g2⟩
    · rintro _ Mq1 _ v9 Mq2 _ _ v8 Mq3 ⟨q9, e8, g1, g2⟩ q8
      have t2 := rd_nm_2 q9
      have fi : rd_find X9.2.2.1 (X9.1 4 0) (tk_tok tp (k9 + 1)).2 = none := by
        cases hf : rd_find X9.2.2.1 (X9.1 4 0) (tk_tok tp (k9 + 1)).2 with
        | none => rfl
        | some c9 =>
          have := (rd_find_lt hf).1
          have hp := nI_pos (n := c9) (by omega)
          have e7 : v8 = nI c9 := by rw [e8, hf]; rfl
          rw [← e7, q8] at hp
          exact absurd hp (by decide)
      rw [hn, rd_cloth_eq (by omega) q9 fi]
      exact rc_c53 (k9 := k9) (w9 := (tk_tok tp (k9 + 1)).2) (x1 := rd_kind tp (k9 + 2)) (X9 := X9) hl c6 hX h5 hk g2.lf g1 (Or.inr ⟨rfl, rfl, hx.rf g2 hl, (g1.tk.2.1 t2).1⟩)
    · rintro _ Mq1 _ v9 Mq2 _ _ v8 Mq3 ⟨q9, e8, g1, g2⟩ q8
      refine pg_Ev.imp ?_ (rc_rfail (S := S) (d := d + 5) (n9 := 3) (by omega) (by omega) hX hk g1)
      rintro q7 M9 ⟨y1, y2, y3⟩
      exact ⟨y1, y2, g2.lf.trans y3.lf⟩
    · rintro _ Mq1 _ v9 Mq2 _ _ v8 Mq3 ⟨q9, e8, _⟩ q8 Mq4 ⟨g1, g2⟩
      refine er 3 Mq4 ?_ g1 g2
      unfold rd_cloth
      rw [if_neg (by omega), if_neg (by rw [q9]; decide), if_pos]
      · rfl
      · cases hf : rd_find X9.2.2.1 (X9.1 4 0) (tk_tok tp (k9 + 1)).2 with
        | none => rw [e8, hf] at q8; exact absurd rfl q8
        | some c9 => rfl
    · rintro _ Mq1 _ v9 Mq2 ⟨e8, g1, g2⟩ q9
      refine pg_Ev.imp ?_ (rc_rfail (S := S) (d := d + 5) (n9 := 1) (by omega) (by omega) hX hk g1)
      rintro q7 M9 ⟨y1, y2, y3⟩
      exact ⟨y1, y2, g2.lf.trans y3.lf⟩
    · rintro _ Mq1 _ v9 Mq2 ⟨e8, _⟩ q9 Mq3 ⟨g1, g2⟩
      rw [e8, b2i_0] at q9
      refine er 1 Mq3 ?_ g1 g2
      unfold rd_cloth
      rw [if_neg (by omega), if_pos q9]; rfl
  · have q6 : ¬ M.1 l9 10 < 6 := fun c => c6 (i6.mp c)
    refine oX7_readCloth (sX7_readCloth_0 (Q0 := fun _ => True) (Q1 := fun _ _ => True) (Q2 := fun _ _ => True) (Q3 := fun _ => True) (Q4 := fun _ => True) (Q5 := fun M' => rc_R M' tp (.error (5 + 16 * tk_place tp k9)) ∧ rc_rf M M') h5 hX (fun c => absurd c q6) (fun c => absurd c q6) (fun c => absurd c q6) (fun c => absurd c q6) (fun c => absurd c q6) (fun c => absurd c q6) (fun c => absurd c q6) (fun c => absurd c q6) (fun _ => rc_rfail (n9 := 5) (by omega) (by omega) hX hk hR) ?_)
    rintro _ Mq1 ⟨g1, g2⟩
    refine ⟨rfl, g2.lf, ?_⟩
    unfold rd_cloth
    rw [if_pos (by omega)]
    exact g1
end PGR
