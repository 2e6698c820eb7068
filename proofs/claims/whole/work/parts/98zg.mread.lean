/-! LINES: the reference reads a cloth -/
theorem rd_kind_one {tp : List Nat} {k9 : Nat} : rd_kind tp k9 = rd_b (rd_one tp k9) (fun j9 => .ok (fun _ => j9)) := by
  unfold rd_kind rd_one
  cases tk_wd (tk_tok tp k9) with
  | none => rfl
  | some j9 =>
    show (if 16 ≤ j9 ∧ j9 ≤ 19 then _ else rd_e tp 1 k9) = rd_b (if 16 ≤ j9 ∧ j9 ≤ 19 then .ok (j9 - 16) else rd_e tp 1 k9) (fun j9 => .ok (fun _ => j9))
    split <;> rfl
section PGR
variable {S : pg_S} {Λ : pg_L} {d n9 k9 a9 : Nat} {M : pg_M} {tp : List Nat} {X9 : rd_X}
theorem rm_readCloth (hX : pg_isX11 Λ) (hk : tk_ok tp) (ho : rd_ok X9) (hw0 : (tk_tok tp k9).1 ≠ 0) (hR : rm_R M tp n9 (.ok k9)) (hx : rm_rX M a9 X9) : pg_Ev S Λ YX11_readCloth (d + 4) [.ref 207] M (fun q M' => q = none ∧ rm_lp a9 n9 tp M (rd_cloth tp k9 X9) M') := by
  have h6 := ho.1.1
  have c100 : (100 : Int32).toNatClampNeg = 100 := by decide
  have hn : M.1 213 100 = nI (X9.1 4 0) := hx.1.1
  have i6 : (M.1 213 (100 : Int32).toNatClampNeg = 6) ↔ X9.1 4 0 = 6 := by rw [c100, hn, show (6 : Int32) = nI 6 from rfl, nI_eq (by omega) (by decide)]
  by_cases c6 : X9.1 4 0 = 6
  · have q6 := i6.mpr c6
    have n6 : ¬ ¬ (M.1 213 (100 : Int32).toNatClampNeg = 6) := fun c => c q6
    have w5 := rm_wrong (S := S) (Λ := Λ) (d := d + 3) (m9 := 5) (by omega) (by omega) hX hk hR
    refine oX11_readCloth (sX11_readCloth_0 (Q0 := fun _ _ => True) (Q1 := fun _ _ => True) (Q2 := fun _ _ => True) (Q3 := fun _ _ => True) (Q4 := fun _ _ => True) (Q5 := fun _ _ => True) (Q6 := fun _ => True) (Q7 := fun _ _ => True) (Q8 := fun _ _ => True) (Q9 := fun _ _ => True) (Q10 := fun _ _ => True) (Q11 := fun _ => True) (Q12 := fun _ _ => True) (Q13 := fun _ _ => True) (Q14 := fun _ _ => True) (Q15 := fun _ _ => True) (Q16 := fun M' => rm_R M' tp n9 (.error (5 + 16 * tk_place tp k9)) ∧ rm_rf M M' ∧ M'.1 207 7 = M.1 207 7) hX ?_ ?_ ?_ ?_ ?_ ?_ ?_ ?_ ?_ ?_ ?_ ?_ ?_ ?_ ?_ ?_ ?_ ?_ ?_ ?_ ?_ ?_ ?_ ?_ ?_ ?_ ?_ ?_ ?_ ?_ ?_ ?_ ?_ ?_ ?_ ?_ ?_ ?_ ?_ ?_ (fun _ => w5) (fun _ Mq1 y9 => ⟨rfl, y9.2.1.lf, by unfold rd_cloth; rw [if_pos c6]; exact y9.1⟩))
    all_goals (intro c; exact absurd c n6)
  · have q6 : ¬ (M.1 213 (100 : Int32).toNatClampNeg = 6) := fun c => c6 (i6.mp c)
    have l6 : X9.1 4 0 < 6 := by omega
    obtain ⟨r1, f1⟩ := hR.adv hw0
    have x1 := hx.rf f1
    have hi := rm_isName (S := S) (Λ := Λ) (d := d + 1) hX hk r1
    cases hnm : rd_nm tp (k9 + 1) with
    | false =>
      rw [hnm] at hi
      have he : rd_cloth tp k9 X9 = .error (1 + 16 * tk_place tp (k9 + 1)) := by
        unfold rd_cloth; rw [if_neg c6, if_pos hnm]; rfl
      have w1 := rm_wrong (S := S) (Λ := Λ) (d := d + 3) (m9 := 1) (by omega) (by omega) hX hk r1
      refine oX11_readCloth (sX11_readCloth_0 (Q0 := fun v M' => v = b2i false ∧ M' = (pg_si M 207 7 ((M.1 207 7) + 1))) (Q1 := fun _ _ => True) (Q2 := fun _ _ => True) (Q3 := fun _ _ => True) (Q4 := fun _ _ => True) (Q5 := fun _ _ => True) (Q6 := fun _ => True) (Q7 := fun _ _ => True) (Q8 := fun _ _ => True) (Q9 := fun _ _ => True) (Q10 := fun _ _ => True) (Q11 := fun M' => rm_R M' tp n9 (.error (1 + 16 * tk_place tp (k9 + 1))) ∧ rm_rf (pg_si M 207 7 ((M.1 207 7) + 1)) M' ∧ M'.1 207 7 = (pg_si M 207 7 ((M.1 207 7) + 1)).1 207 7) (Q12 := fun _ _ => True) (Q13 := fun _ _ => True) (Q14 := fun _ _ => True) (Q15 := fun _ _ => True) (Q16 := fun _ => True) hX (fun _ => hi) ?_ ?_ ?_ ?_ ?_ ?_ ?_ ?_ ?_ ?_ ?_ ?_ ?_ ?_ ?_ ?_ ?_ ?_ ?_ ?_ ?_ ?_ ?_ ?_ ?_ ?_ (fun _ v9 Mq1 y9 _ => by rw [y9.2]; exact w1) ?_ ?_ ?_ ?_ ?_ ?_ ?_ ?_ ?_ ?_ ?_ (fun _ v9 Mq1 _ _ Mq2 y9 _ => ⟨rfl, (f1.trans y9.2.1).lf, by rw [he]; exact y9.1⟩) (fun c => absurd c q6) (fun c => absurd c q6))
      all_goals first
        | (intro _ v9 Mq1 y9 c; exact absurd y9.1 c)
        | (intro _ v9 Mq1 _ _ Mq2 y9 c; exact absurd c y9.1.fle)
    | true =>
      rw [hnm] at hi
      have t2 := rd_nm_2 hnm
      have fi := rm_find (S := S) (Λ := Λ) (d := d + 3) (b9 := 1) (by omega) hX hk r1 t2 x1.2 ho.nok
      cases hf : rd_find X9.2.2.1 (X9.1 4 0) (tk_tok tp (k9 + 1)).2 with
      | some c9 =>
        rw [hf] at fi
        have lt := (rd_find_lt hf).1
        have he : rd_cloth tp k9 X9 = .error (3 + 16 * tk_place tp (k9 + 1)) := by
          unfold rd_cloth; rw [if_neg c6, if_neg (by rw [hnm]; decide), if_pos (by rw [hf]; rfl)]; rfl
        have w3 := rm_wrong (S := S) (Λ := Λ) (d := d + 3) (m9 := 3) (by omega) (by omega) hX hk r1
        have po : ∀ v9 : Int32, v9 = rd_fi (some c9) → ¬ v9 < 0 := fun v9 e9 => by rw [e9]; exact nI_pos (n := c9) (by omega)
        refine oX11_readCloth (sX11_readCloth_0 (Q0 := fun v M' => v = b2i true ∧ M' = (pg_si M 207 7 ((M.1 207 7) + 1))) (Q1 := fun v M' => v = rd_fi (some c9) ∧ M' = (pg_si M 207 7 ((M.1 207 7) + 1))) (Q2 := fun _ _ => True) (Q3 := fun _ _ => True) (Q4 := fun _ _ => True) (Q5 := fun _ _ => True) (Q6 := fun M' => rm_R M' tp n9 (.error (3 + 16 * tk_place tp (k9 + 1))) ∧ rm_rf (pg_si M 207 7 ((M.1 207 7) + 1)) M' ∧ M'.1 207 7 = (pg_si M 207 7 ((M.1 207 7) + 1)).1 207 7) (Q7 := fun _ _ => True) (Q8 := fun _ _ => True) (Q9 := fun _ _ => True) (Q10 := fun _ _ => True) (Q11 := fun _ => True) (Q12 := fun _ _ => True) (Q13 := fun _ _ => True) (Q14 := fun _ _ => True) (Q15 := fun _ _ => True) (Q16 := fun _ => True) hX (fun _ => hi) (fun _ v9 Mq1 y9 _ => by rw [y9.2]; exact fi) ?_ ?_ ?_ ?_ ?_ ?_ ?_ ?_ ?_ ?_ ?_ ?_ (fun _ v9 Mq1 _ _ v8 Mq2 y9 _ => by rw [y9.2]; exact w3) ?_ ?_ ?_ ?_ ?_ ?_ ?_ ?_ ?_ ?_ ?_ (fun _ v9 Mq1 _ _ v8 Mq2 _ _ Mq3 y9 _ => ⟨rfl, (f1.trans y9.2.1).lf, by rw [he]; exact y9.1⟩) ?_ ?_ ?_ ?_ ?_ ?_ ?_ ?_ ?_ ?_ ?_ ?_ ?_ (fun c => absurd c q6) (fun c => absurd c q6))
        all_goals first
          | (intro _ v9 Mq1 _ _ v8 Mq2 y9 c; exact absurd c (po v8 y9.1))
          | (intro _ v9 Mq1 _ _ v8 Mq2 _ _ Mq3 y9 c; exact absurd c y9.1.fle)
          | (intro _ v9 Mq1 y9 c; rw [y9.1] at c; exact absurd c (by decide))
      | none =>
        rw [hf] at fi
        have ix : ∀ i9 : Nat, i9 < 4 → ((nI (108 + 4 * X9.1 4 0 + i9))).toNatClampNeg = 108 + 4 * X9.1 4 0 + i9 := fun i9 _ => nI_clamp (by omega)
        have e8 : (108 : Int32) + 4 * M.1 213 (100 : Int32).toNatClampNeg = nI (108 + 4 * X9.1 4 0) := by
          rw [c100, hn, show (4 : Int32) = nI 4 from rfl, pk_mul, show (108 : Int32) = nI 108 from rfl, nI_add]
        have e80 : ((108 : Int32) + 4 * M.1 213 (100 : Int32).toNatClampNeg).toNatClampNeg = 108 + 4 * X9.1 4 0 + 0 := by rw [e8]; exact ix 0 (by omega)
        have e81 : ((108 : Int32) + 4 * M.1 213 (100 : Int32).toNatClampNeg + 1).toNatClampNeg = 108 + 4 * X9.1 4 0 + 1 := by rw [e8, nI_1]; exact ix 1 (by omega)
        have e82 : ((108 : Int32) + 4 * M.1 213 (100 : Int32).toNatClampNeg + 2).toNatClampNeg = 108 + 4 * X9.1 4 0 + 2 := by rw [e8, show (2 : Int32) = nI 2 from rfl, nI_add]; exact ix 2 (by omega)
        have e83 : ((108 : Int32) + 4 * M.1 213 (100 : Int32).toNatClampNeg + 3).toNatClampNeg = 108 + 4 * X9.1 4 0 + 3 := by rw [e8, show (3 : Int32) = nI 3 from rfl, nI_add]; exact ix 3 (by omega)
        obtain ⟨g1, g2, g3, g4, g5⟩ := r1.at9
        have m17 : (pg_si M 207 7 ((M.1 207 7) + 1)).1 207 17 = nI (X9.1 4 0) := x1.2.1
        have cl17 : (nI (X9.1 4 0)).toNatClampNeg = X9.1 4 0 := nI_clamp (by omega)
        have val : (pg_si M 207 7 ((M.1 207 7) + 1)).2.1 211 ((pg_si M 207 7 ((M.1 207 7) + 1)).1 207 7).toNatClampNeg = lN (sp_w 37 (tk_tok tp (k9 + 1)).2) := by rw [g1, g4]; exact g5.2.2.1 t2
        -- the name is laid
        have one9 : pg_Ev S Λ YX11_takeOne (d + 3) [.ref 207, .int 16, .int 4] (pg_si (pg_si (pg_sj (pg_si M 207 7 ((M.1 207 7) + 1)) 217 (X9.1 4 0) (lN (sp_w 37 (tk_tok tp (k9 + 1)).2))) 207 17 (nI (X9.1 4 0 + 1))) 207 7 (((pg_si (pg_sj (pg_si M 207 7 ((M.1 207 7) + 1)) 217 (X9.1 4 0) (lN (sp_w 37 (tk_tok tp (k9 + 1)).2))) 207 17 (nI (X9.1 4 0 + 1))).1 207 7) + 1)) (fun r M' => ∃ v, r = some (.int v) ∧ rm_st a9 n9 k9 tp X9 (tk_tok tp (k9 + 1)).2 M 1 (rd_kind tp (k9 + 2)) (pg_si M' 213 (108 + 4 * X9.1 4 0 + 0) v)) := by
          have r2 : rm_R (pg_si (pg_sj (pg_si M 207 7 ((M.1 207 7) + 1)) 217 (X9.1 4 0) (lN (sp_w 37 (tk_tok tp (k9 + 1)).2))) 207 17 (nI (X9.1 4 0 + 1))) tp n9 (.ok (k9 + 1)) := (r1.sj).s07 (by decide) (by decide)
          obtain ⟨r3, f3⟩ := r2.adv (by rw [t2]; decide)
          have lf9 : rm_lf M (pg_si (pg_sj (pg_si M 207 7 ((M.1 207 7) + 1)) 217 (X9.1 4 0) (lN (sp_w 37 (tk_tok tp (k9 + 1)).2))) 207 17 (nI (X9.1 4 0 + 1))) := (f1.lf.trans rm_lf.sj).trans (rm_lf.s07 (by omega))
          have z2 : rm_rZ (pg_si (pg_sj (pg_si M 207 7 ((M.1 207 7) + 1)) 217 (X9.1 4 0) (lN (sp_w 37 (tk_tok tp (k9 + 1)).2))) 207 17 (nI (X9.1 4 0 + 1))) a9 X9.1 X9.2.1 X9.2.2.2 := x1.1.mv (by rw [pg_si_ne (by decide)]; rfl) (by rw [pg_si_ne (by decide)]; rfl) (by rw [pg_si_ne (by decide)]; rfl) (by rw [pg_si_at, pk_un (by decide)]; rfl) (by rw [pg_si_at, pk_un (by decide)]; rfl)
          have nn2 : rm_rN (pg_si (pg_sj (pg_si M 207 7 ((M.1 207 7) + 1)) 217 (X9.1 4 0) (lN (sp_w 37 (tk_tok tp (k9 + 1)).2))) 207 17 (nI (X9.1 4 0 + 1))) 1 (X9.1 4 0 + 1) (fun i9 => if i9 = X9.1 4 0 then (tk_tok tp (k9 + 1)).2 else X9.2.2.1 i9) := by
            refine ⟨by rw [pg_si_at]; exact pk_us, fun c9 hc => ?_⟩
            have : (pg_si (pg_sj (pg_si M 207 7 ((M.1 207 7) + 1)) 217 (X9.1 4 0) (lN (sp_w 37 (tk_tok tp (k9 + 1)).2))) 207 17 (nI (X9.1 4 0 + 1))).2.1 (216 + 1) = vp_updL ((pg_si M 207 7 ((M.1 207 7) + 1)).2.1 217) (X9.1 4 0) (lN (sp_w 37 (tk_tok tp (k9 + 1)).2)) := by simp [pg_si, pg_sj]
            rw [this]
            by_cases z9 : c9 = X9.1 4 0
            · rw [z9, pk_uLs]
              show _ = lN (sp_w 37 (if X9.1 4 0 = X9.1 4 0 then (tk_tok tp (k9 + 1)).2 else X9.2.2.1 (X9.1 4 0)))
              rw [if_pos rfl]
            · rw [pk_uLn z9]
              show _ = lN (sp_w 37 (if c9 = X9.1 4 0 then (tk_tok tp (k9 + 1)).2 else X9.2.2.1 c9))
              rw [if_neg z9]
              exact x1.2.2 c9 (by omega)
          refine pg_Ev.mono (by omega) (pg_Ev.imp ?_ (rm_takeOne (S := S) (d := d) hX hk r3))
          rintro q7 M9 ⟨v9, y1, y2, y3⟩
          refine ⟨v9, y1, ((lf9.trans f3.lf).trans y2.lf).trans (rm_lf.s13 (by omega)), ?_⟩
          rw [rd_kind_one]
          cases ho9 : rd_one tp (k9 + 2) with
          | error e9 => rw [ho9] at y3; exact y3.s13
          | ok j9 =>
            rw [ho9] at y3
            have z4 := (z2.rf f3).rf y2
            have n4 := (nn2.rf (by omega) f3).rf (by omega) y2
            refine ⟨y3.1.s13, z4.new l6 (by omega), ⟨by rw [pg_si_ne (by decide)]; exact n4.1, n4.2⟩, fun j8 hj => ?_⟩
            obtain rfl : j8 = 0 := by omega
            rw [pg_si_at, pk_us, y3.2]
        have m1 : ∀ Mq, rm_st a9 n9 k9 tp X9 (tk_tok tp (k9 + 1)).2 M 1 (rd_kind tp (k9 + 2)) Mq → pg_Ev S Λ YX11_takeAfter (d + 3) [.ref 207, .int 1, .int 1, .int 20] Mq (fun r M' => ∃ v, r = some (.int v) ∧ rm_st a9 n9 k9 tp X9 (tk_tok tp (k9 + 1)).2 M 2 (rd_nx tp 1 1 20 k9 (rd_kind tp (k9 + 2))) (pg_si M' 213 (108 + 4 * X9.1 4 0 + 1) v)) := fun Mq hs => rm_step (i9 := 1) (lo := 1) (hi := 20) l6 (by omega) (by omega) (by omega) (by omega) hX hk hs
        have m2 : ∀ Mq, rm_st a9 n9 k9 tp X9 (tk_tok tp (k9 + 1)).2 M 2 (rd_nx tp 1 1 20 k9 (rd_kind tp (k9 + 2))) Mq → pg_Ev S Λ YX11_takeAfter (d + 3) [.ref 207, .int 2, .int 0, .int 20] Mq (fun r M' => ∃ v, r = some (.int v) ∧ rm_st a9 n9 k9 tp X9 (tk_tok tp (k9 + 1)).2 M 3 (rd_nx tp 2 0 20 k9 (rd_nx tp 1 1 20 k9 (rd_kind tp (k9 + 2)))) (pg_si M' 213 (108 + 4 * X9.1 4 0 + 2) v)) := fun Mq hs => rm_step (i9 := 2) (lo := 0) (hi := 20) l6 (by omega) (by omega) (by omega) (by omega) hX hk hs
        have m3 : ∀ Mq, rm_st a9 n9 k9 tp X9 (tk_tok tp (k9 + 1)).2 M 3 (rd_nx tp 2 0 20 k9 (rd_nx tp 1 1 20 k9 (rd_kind tp (k9 + 2)))) Mq → pg_Ev S Λ YX11_takeAfter (d + 3) [.ref 207, .int 3, .int 0, .int 99] Mq (fun r M' => ∃ v, r = some (.int v) ∧ rm_st a9 n9 k9 tp X9 (tk_tok tp (k9 + 1)).2 M 4 (rd_nx tp 3 0 99 k9 (rd_nx tp 2 0 20 k9 (rd_nx tp 1 1 20 k9 (rd_kind tp (k9 + 2))))) (pg_si M' 213 (108 + 4 * X9.1 4 0 + 3) v)) := fun Mq hs => rm_step (i9 := 3) (lo := 0) (hi := 99) l6 (by omega) (by omega) (by omega) (by omega) hX hk hs
        have fin9 : ∀ Mq, rm_st a9 n9 k9 tp X9 (tk_tok tp (k9 + 1)).2 M 4 (rd_nx tp 3 0 99 k9 (rd_nx tp 2 0 20 k9 (rd_nx tp 1 1 20 k9 (rd_kind tp (k9 + 2))))) Mq → (none : Option Value) = none ∧ rm_lp a9 n9 tp M (rd_cloth tp k9 X9) (pg_si Mq 213 100 ((Mq.1 213 100) + 1)) := by
          rintro Mq ⟨s1, s2⟩
          rw [rd_cloth_eq c6 hnm hf]
          refine ⟨rfl, s1.trans (rm_lf.s13 (by omega)), ?_⟩
          cases hq : rd_nx tp 3 0 99 k9 (rd_nx tp 2 0 20 k9 (rd_nx tp 1 1 20 k9 (rd_kind tp (k9 + 2)))) with
          | error e9 => rw [hq] at s2; exact s2.s13
          | ok g9 =>
            rw [hq] at s2
            obtain ⟨t1, t2, t3, t4⟩ := s2
            exact ⟨t1.s13, rm_rX.add l6 t2 t3 t4⟩
        have neg : ∀ v9 : Int32, v9 = rd_fi none → v9 < 0 := fun v9 e9 => by rw [e9]; decide
        refine oX11_readCloth (sX11_readCloth_0 (Q0 := fun v M' => v = b2i true ∧ M' = (pg_si M 207 7 ((M.1 207 7) + 1))) (Q1 := fun v M' => v = rd_fi none ∧ M' = (pg_si M 207 7 ((M.1 207 7) + 1))) (Q2 := fun v M' => rm_st a9 n9 k9 tp X9 (tk_tok tp (k9 + 1)).2 M 1 (rd_kind tp (k9 + 2)) (pg_si M' 213 (108 + 4 * X9.1 4 0 + 0) v)) (Q3 := fun v M' => rm_st a9 n9 k9 tp X9 (tk_tok tp (k9 + 1)).2 M 2 (rd_nx tp 1 1 20 k9 (rd_kind tp (k9 + 2))) (pg_si M' 213 (108 + 4 * X9.1 4 0 + 1) v)) (Q4 := fun v M' => rm_st a9 n9 k9 tp X9 (tk_tok tp (k9 + 1)).2 M 3 (rd_nx tp 2 0 20 k9 (rd_nx tp 1 1 20 k9 (rd_kind tp (k9 + 2)))) (pg_si M' 213 (108 + 4 * X9.1 4 0 + 2) v)) (Q5 := fun v M' => rm_st a9 n9 k9 tp X9 (tk_tok tp (k9 + 1)).2 M 4 (rd_nx tp 3 0 99 k9 (rd_nx tp 2 0 20 k9 (rd_nx tp 1 1 20 k9 (rd_kind tp (k9 + 2))))) (pg_si M' 213 (108 + 4 * X9.1 4 0 + 3) v)) (Q6 := fun _ => True) (Q7 := fun _ _ => True) (Q8 := fun _ _ => True) (Q9 := fun _ _ => True) (Q10 := fun _ _ => True) (Q11 := fun _ => True) (Q12 := fun _ _ => True) (Q13 := fun _ _ => True) (Q14 := fun _ _ => True) (Q15 := fun _ _ => True) (Q16 := fun _ => True) hX (fun _ => hi) (fun _ v9 Mq1 y9 _ => by rw [y9.2]; exact fi)
          (fun _ v9 Mq1 _ _ v8 Mq2 y9 _ _ => by rw [y9.2]; exact r1.vin)
          (fun _ v9 Mq1 _ _ v8 Mq2 y9 _ _ => by rw [y9.2, m17]; exact vp_in_nI l6 (by decide))
          (fun _ v9 Mq1 _ _ v8 Mq2 y9 _ _ Nq1 eq1 => by
            have en : ((pg_sj (pg_si M 207 7 ((M.1 207 7) + 1)) 217 (X9.1 4 0) (lN (sp_w 37 (tk_tok tp (k9 + 1)).2))).1 207 17) + 1 = nI (X9.1 4 0 + 1) := by
              show ((pg_si M 207 7 ((M.1 207 7) + 1)).1 207 17) + 1 = _
              rw [m17, nI_1]
            rw [y9.2, m17, cl17, val, en] at eq1
            rw [eq1]; exact one9)
          (fun _ v9 Mq1 _ _ v8 Mq2 _ _ _ Nq1 _ v7 Mq3 _ => by rw [e8]; exact vp_in_nI (by omega) (by decide))
          (fun _ v9 Mq1 _ _ v8 Mq2 _ _ _ Nq1 _ v7 Mq3 y9 => by rw [e80]; exact m1 _ y9)
          (fun _ v9 Mq1 _ _ v8 Mq2 _ _ _ Nq1 _ v7 Mq3 _ v6 Mq4 _ => by rw [e8, nI_1]; exact vp_in_nI (by omega) (by decide))
          (fun _ v9 Mq1 _ _ v8 Mq2 _ _ _ Nq1 _ v7 Mq3 _ v6 Mq4 y9 => by rw [e81]; exact m2 _ y9)
          (fun _ v9 Mq1 _ _ v8 Mq2 _ _ _ Nq1 _ v7 Mq3 _ v6 Mq4 _ v5 Mq5 _ => by rw [e8, show (2 : Int32) = nI 2 from rfl, nI_add]; exact vp_in_nI (by omega) (by decide))
          (fun _ v9 Mq1 _ _ v8 Mq2 _ _ _ Nq1 _ v7 Mq3 _ v6 Mq4 _ v5 Mq5 y9 => by rw [e82]; exact m3 _ y9)
          (fun _ v9 Mq1 _ _ v8 Mq2 _ _ _ Nq1 _ v7 Mq3 _ v6 Mq4 _ v5 Mq5 _ v4 Mq6 _ => by rw [e8, show (3 : Int32) = nI 3 from rfl, nI_add]; exact vp_in_nI (by omega) (by decide))
          (fun _ v9 Mq1 _ _ v8 Mq2 _ _ _ Nq1 _ v7 Mq3 _ v6 Mq4 _ v5 Mq5 _ v4 Mq6 y9 Nq2 eq2 => by rw [eq2, e83]; exact fin9 _ y9)
          (fun _ v9 Mq1 _ _ v8 Mq2 y9 _ c => by rw [y9.2] at c; exact absurd r1.f0 c)
          ?_ ?_ ?_ ?_ ?_ ?_ ?_ ?_ ?_ ?_ ?_ ?_ ?_ ?_ ?_ ?_ ?_ ?_ ?_ ?_ ?_ ?_ ?_ ?_ ?_ ?_ (fun c => absurd c q6) (fun c => absurd c q6))
        all_goals first
          | (intro _ v9 Mq1 _ _ v8 Mq2 y9 c; exact absurd (neg v8 y9.1) c)
          | (intro _ v9 Mq1 y9 c; rw [y9.1] at c; exact absurd c (by decide))
end PGR
