/-! DAYS: the class reads a day -/
def rc_dq (p9 b9 : Nat) : Prop := b9 = 1 ∨ (p9 ≤ b9 ∧ b9 < p9 + 4)
def rc_df (p9 : Nat) (M M' : pg_M) : Prop := pg_pf (rc_dq p9) M M'
theorem rc_rf.df {p9 : Nat} {M M' : pg_M} (g1 : rc_rf M M') : rc_df p9 M M' := pg_pf.of g1.1 (fun b9 hb => by simp at hb; exact Or.inl hb)
theorem rc_P.rf {p9 : Nat} {M M' : pg_M} {pl : List (Nat × Nat × Nat)} (hp : rc_P M p9 pl) (g1 : rc_rf M M') (h9 : 3 ≤ p9) : rc_P M' p9 pl := hp.fr (by rw [g1.1.1 p9 (by simp; omega)]) (fun j9 _ _ => g1.1.1 _ (by simp; omega))
theorem rc_N.rf {l9 n9 : Nat} {M M' : pg_M} {nm : Nat → List Nat} (hn : rc_N M l9 n9 nm) (g1 : rc_rf M M') (h9 : 3 ≤ l9) : rc_N M' l9 n9 nm := fun c9 hc => by
  rw [g1.1.2.1 (l9 + 1) (by simp; omega)]; exact hn c9 hc
theorem sp_okG.rd {G : sp_G} {h : Nat} (hk : sp_okG G h) : ∃ X9 : rd_X, rd_ok X9 ∧ X9.1 4 0 = G.L 4 0 ∧ X9.2.2.1 = G.nm := by
  obtain ⟨o1, o2, o3, o4, o5, o6, o7, o8, o9, o10⟩ := hk.l
  obtain ⟨c1, c2, c3, c4⟩ := hk.c
  have n9 := hk.2.2.2.2.2.2.2.1
  refine ⟨((fun a9 b9 => if a9 = 4 ∧ b9 = 5 then rd_cnt G.L else G.L a9 b9), G.E, G.nm, 0), ⟨⟨o1, o2, o3, o4, o5, o6, o7, o8, o9, o10⟩, ⟨fun c9 hc => ?_, n9.2⟩, ⟨c1, c2, ?_, c4⟩, by show 0 < 64; omega⟩, rfl, rfl⟩
  · obtain ⟨a1, a2, a3⟩ := n9.1 c9 hc
    exact ⟨a1, a2, fun x9 hx => ⟨(a3 x9 hx).1, by have := (a3 x9 hx).2; omega⟩⟩
  · show (if 4 = 4 ∧ 5 = 5 then rd_cnt G.L else G.L 4 5) = rd_cnt _
    rw [if_pos ⟨rfl, rfl⟩]
    exact rd_cnt_cong (fun p9 => rfl)
section PGR
variable {S : pg_S} {Λ : pg_L} {d k9 l9 p9 : Nat} {M : pg_M} {tp : List Nat} {pl : List (Nat × Nat × Nat)}
/-- where a deed's reading stands -/
def rc_dz (p9 : Nat) (tp : List Nat) (pl : List (Nat × Nat × Nat)) (M : pg_M) (z9 : tk_st) (M' : pg_M) : Prop := rc_df p9 M M' ∧ rc_P M' p9 pl ∧ rc_R M' tp z9
theorem rc_dz.rf {Mq Mq1 : pg_M} {z9 z8 : tk_st} (h9 : 3 ≤ p9) (g : rc_dz p9 tp pl M z9 Mq) (g1 : rc_rf Mq Mq1) (g2 : rc_R Mq1 tp z8) : rc_dz p9 tp pl M z8 Mq1 := ⟨g.1.trans g1.df, g.2.1.rf g1 h9, g2⟩
theorem rc_dexp {Mq : pg_M} {z9 : tk_st} (h9 : 3 ≤ p9) (hX : pg_isX7 Λ) (hk : tk_ok tp) (g : rc_dz p9 tp pl M z9 Mq) : pg_Ev S Λ YX7_expectSign (d + 4) [.ref 1, .int 59] Mq (fun q M' => q = none ∧ rc_dz p9 tp pl M (tk_exp tp 59 z9) M') := by
  refine pg_Ev.imp ?_ (rc_expect (S := S) (d := d) (c9 := 59) (by omega) (by decide) hX hk g.2.2)
  rintro q7 M9 ⟨y1, y2, y3⟩
  refine ⟨y1, g.rf h9 y3 ?_⟩
  cases z9 with
  | error e9 => exact y2
  | ok k9 =>
    have y2 : rc_R M9 tp (if tk_tok tp k9 = (4, [59]) then .ok (k9 + 1) else .error (1 + 16 * tk_place tp k9)) := y2
    unfold tk_exp
    by_cases c9 : tk_tok tp k9 = (4, [59])
    · rw [if_pos c9] at y2
      rw [show tk_isS tp 59 (.ok k9) = true from decide_eq_true c9, if_pos rfl]
      exact y2
    · rw [if_neg c9] at y2
      rw [show tk_isS tp 59 (.ok k9) = false from decide_eq_false c9, if_neg (by decide)]
      exact y2
def rc_dp (p9 : Nat) (tp : List Nat) (M : pg_M) (x9 : Except Nat (Nat × List (Nat × Nat × Nat))) (M' : pg_M) : Prop := rc_df p9 M M' ∧ match x9 with
  | .ok y9 => rc_R M' tp (.ok y9.1) ∧ rc_P M' p9 y9.2
  | .error e9 => rc_R M' tp (.error e9)
def rd_ad (z9 : tk_st) (pl : List (Nat × Nat × Nat)) (e9 : Nat × Nat × Nat) : Except Nat (Nat × List (Nat × Nat × Nat)) := match z9 with
  | .ok k9 => .ok (k9, pl ++ [e9])
  | .error f9 => .error f9
theorem rc_dadd {Mq : pg_M} {z9 : tk_st} {e9 : Nat × Nat × Nat} {v1 v2 v3 : Int32} (h9 : 3 ≤ p9) (hp : pl.length < 30) (h1 : pg_isX1 Λ p9) (hv : ∀ k9, z9 = .ok k9 → v1 = nI (11 + e9.1) ∧ v2 = (if e9.1 < 3 then nI e9.2.1 else -1) ∧ v3 = rc_det e9) (g : rc_dz p9 tp pl M z9 Mq) : pg_Ev S Λ YX1_add d [.ref p9, .int v1, .int v2, .int v3] Mq (fun q M' => q = none ∧ rc_dp p9 tp M (rd_ad z9 pl e9) M') := by
  obtain ⟨g1, ⟨g2, g3⟩, g4⟩ := g
  have cq : ¬ (30 : Int32) ≤ Mq.1 p9 3 := by rw [g2]; exact nI_ge hp (by decide)
  have hcl : (nI pl.length).toNatClampNeg = pl.length := nI_clamp (by omega)
  have n3 : (pg_si Mq (p9 + 1) (Mq.1 p9 3).toNatClampNeg v1).1 p9 3 = nI pl.length := by rw [pg_si_ne (by omega)]; exact g2
  refine oX1_add (sX1_add_0 h1 (fun c => absurd c cq) (fun _ => by rw [g2]; exact vp_in_nI hp (by decide)) (fun _ => by rw [n3]; exact vp_in_nI hp (by decide)) ?_ ?_)
  · intro _ Nq1 eq1
    rw [eq1, pg_si_ne (by omega), n3]; exact vp_in_nI hp (by decide)
  · intro _ Nq1 eq1 Nq2 eq2
    rw [n3, g2, hcl] at eq1
    have m3 : Nq1.1 p9 3 = nI pl.length := by rw [eq1, pg_si_ne (by omega), pg_si_ne (by omega)]; exact g2
    rw [m3, hcl, pg_si_ne (show p9 ≠ p9 + 3 by omega), m3, nI_1] at eq2
    have fr : pg_fr [p9, p9 + 1, p9 + 2, p9 + 3] Mq Nq2 := by
      rw [eq2, eq1]
      exact (((pg_fr.si (by simp)).trans (pg_fr.si (by simp))).trans (pg_fr.si (by simp))).trans (pg_fr.si (by simp))
    have rr : rc_R Nq2 tp z9 := g4.fr9 (fr.1 1 (by simp; omega)) (fr.1 2 (by simp; omega)) (fr.2.1 1 (by simp; omega))
    refine ⟨rfl, g1.trans (pg_pf.of fr (fun b9 hb => by simp at hb; unfold rc_dq; omega)), ?_⟩
    cases z9 with
    | error f9 => exact rr
    | ok k9 =>
      obtain ⟨w1, w2, w3⟩ := hv k9 rfl
      refine ⟨rr, ?_, fun j9 a9 hj => ?_⟩
      · show Nq2.1 p9 3 = nI (pl ++ [e9]).length
        rw [eq2, pg_si_at, pk_us]; simp
      · have r1 : Nq2.1 (p9 + 1) = upd (Mq.1 (p9 + 1)) pl.length v1 := by
          rw [eq2, pg_si_ne (by omega), pg_si_ne (by omega), eq1, pg_si_ne (by omega), pg_si_at]
        have r2 : Nq2.1 (p9 + 2) = upd (Mq.1 (p9 + 2)) pl.length v2 := by
          rw [eq2, pg_si_ne (by omega), pg_si_ne (by omega), eq1, pg_si_at, pg_si_ne (by omega)]
        have r3 : Nq2.1 (p9 + 3) = upd (Mq.1 (p9 + 3)) pl.length v3 := by
          rw [eq2, pg_si_ne (by omega), pg_si_at, eq1, pg_si_ne (by omega), pg_si_ne (by omega)]
        rw [r1, r2, r3]
        have hj : (pl ++ [e9])[j9]? = some a9 := hj
        by_cases z9 : j9 = pl.length
        · subst z9
          rw [List.getElem?_append_right (Nat.le_refl _), Nat.sub_self] at hj
          rw [pk_us, pk_us, pk_us, ← Option.some.inj hj]
          exact ⟨w1, w2, w3⟩
        · have hjl : j9 < pl.length := by
            have := (List.getElem?_eq_some_iff.mp hj).1
            simp at this; omega
          rw [List.getElem?_append_left hjl] at hj
          rw [pk_un z9, pk_un z9, pk_un z9]
          exact g3 j9 a9 hj
/-- the deed with its sign behind it -/
theorem rd_done_eq {nm : Nat → List Nat} {n9 w9 : Nat} (hw : tk_wd (tk_tok tp k9) = some (11 + w9)) (h5 : w9 < 5) (h30 : pl.length ≠ 30) : rd_done tp nm n9 k9 pl = rd_b (rd_deed tp nm n9 k9 w9) (fun r9 => rd_ad (tk_exp tp 59 (.ok r9.1)) pl r9.2) := by
  unfold rd_done
  rw [hw]
  show (if 11 ≤ 11 + w9 ∧ 11 + w9 ≤ 15 then (if pl.length = 30 then rd_e tp 5 k9 else rd_b (rd_deed tp nm n9 k9 (11 + w9 - 11)) (fun r9 => if tk_tok tp r9.1 = (4, [59]) then .ok (r9.1 + 1, pl ++ [r9.2]) else rd_e tp 1 r9.1)) else rd_e tp 1 k9) = _
  rw [if_pos (by omega), if_neg h30, Nat.add_sub_cancel_left]
  congr 1
  funext r9
  unfold tk_exp
  by_cases c9 : tk_tok tp r9.1 = (4, [59])
  · rw [if_pos c9, show tk_isS tp 59 (.ok r9.1) = true from decide_eq_true c9, if_pos rfl]; rfl
  · rw [if_neg c9, show tk_isS tp 59 (.ok r9.1) = false from decide_eq_false c9, if_neg (by decide)]; rfl
theorem rc_readDone {X9 : rd_X} (h9 : 3 ≤ p9) (hl : 3 ≤ l9) (hlp : l9 + 15 ≤ p9) (hX : pg_isX7 Λ) (h5 : pg_isX5 Λ l9) (h1 : pg_isX1 Λ p9) (hk : tk_ok tp) (ho : rd_ok X9) (hn : M.1 l9 10 = nI (X9.1 4 0)) (hN : rc_N M l9 (X9.1 4 0) X9.2.2.1) (hp : pl.length ≤ 30) (hR : rc_R M tp (.ok k9)) (hP : rc_P M p9 pl) : pg_Ev S Λ YX7_readDone (d + 5) [.ref 1, .ref l9, .ref p9] M (fun q M' => q = none ∧ rc_dp p9 tp M (rd_done tp X9.2.2.1 (X9.1 4 0) k9 pl) M') := by
  have s2 := hR.tk.s0 (c9 := 2) hk (by omega)
  have hm : M.1 p9 3 = nI pl.length := hP.1
  have i30 : (M.1 p9 3 < 30) ↔ pl.length < 30 := by rw [hm, show (30 : Int32) = nI 30 from rfl, nI_ltI (by omega) (by decide)]
  have ff : ∀ m9, 0 < m9 → m9 < 16 → rd_done tp X9.2.2.1 (X9.1 4 0) k9 pl = .error (m9 + 16 * tk_place tp k9) → pg_Ev S Λ YX7_fail (d + 4) [.ref 1, .int (nI m9)] M (fun q M' => q = none ∧ rc_dp p9 tp M (rd_done tp X9.2.2.1 (X9.1 4 0) k9 pl) M') := fun m9 h0 h16 he => by
    refine pg_Ev.imp ?_ (rc_rfail (S := S) (d := d + 4) (n9 := m9) h0 h16 hX hk hR)
    rintro q7 M9 ⟨y1, y2, y3⟩
    rw [he]
    exact ⟨y1, y3.df, y2⟩
  have dz0 : rc_dz p9 tp pl M (.ok k9) M := ⟨pg_pf.rfl', hP, hR⟩
  have key : ∀ s0 : Int32, (match tk_wd (tk_tok tp k9) with
      | some j9 => s0 = nI j9
      | none => s0 = -1) → pg_At S Λ YX7_readDone (d + 5) 16 [(0, .ref 1), (1, .ref l9), (2, .ref p9)] [.int s0] M (fun q M' => q = none ∧ rc_dp p9 tp M (rd_done tp X9.2.2.1 (X9.1 4 0) k9 pl) M') := by
    intro s0 hs
    have low : s0 < 11 → rd_done tp X9.2.2.1 (X9.1 4 0) k9 pl = .error (1 + 16 * tk_place tp k9) → pg_At S Λ YX7_readDone (d + 5) 16 [(0, .ref 1), (1, .ref l9), (2, .ref p9)] [.int s0] M (fun q M' => q = none ∧ rc_dp p9 tp M (rd_done tp X9.2.2.1 (X9.1 4 0) k9 pl) M') := fun y11 he =>
      sX7_readDone_16 (Q0 := fun M' => rc_dp p9 tp M (rd_done tp X9.2.2.1 (X9.1 4 0) k9 pl) M') (Q1 := fun _ => True) (Q2 := fun _ => True) (Q3 := fun _ => True) (Q4 := fun _ _ => True) (Q5 := fun _ => True) (Q6 := fun _ => True) (Q7 := fun _ _ => True) (Q8 := fun _ => True) (Q9 := fun _ => True) (Q10 := fun _ _ => True) (Q11 := fun _ => True) (Q12 := fun _ => True) (Q13 := fun _ _ => True) (Q14 := fun _ => True) (Q15 := fun _ => True) (Q16 := fun _ _ => True) (Q17 := fun _ => True) (Q18 := fun _ => True) (Q19 := fun _ => True) (Q20 := fun _ => True) hX h1 (fun _ => ff 1 (by omega) (by omega) he) (fun _ Mq1 g9 => ⟨rfl, g9⟩) (fun c => absurd y11 c) (fun c => absurd y11 c) (fun c => absurd y11 c) (fun c => absurd y11 c) (fun c => absurd y11 c) (fun c => absurd y11 c) (fun c => absurd y11 c) (fun c => absurd y11 c) (fun c => absurd y11 c) (fun c => absurd y11 c) (fun c => absurd y11 c) (fun c => absurd y11 c) (fun c => absurd y11 c) (fun c => absurd y11 c) (fun c => absurd y11 c) (fun c => absurd y11 c) (fun c => absurd y11 c) (fun c => absurd y11 c) (fun c => absurd y11 c) (fun c => absurd y11 c) (fun c => absurd y11 c) (fun c => absurd y11 c) (fun c => absurd y11 c) (fun c => absurd y11 c) (fun c => absurd y11 c) (fun c => absurd y11 c) (fun c => absurd y11 c) (fun c => absurd y11 c)
    cases hw : tk_wd (tk_tok tp k9) with
    | none =>
      rw [hw] at hs
      have hs : s0 = -1 := hs
      exact low (by rw [hs]; decide) (by unfold rd_done; rw [hw]; rfl)
    | some j9 =>
      rw [hw] at hs
      have hs : s0 = nI j9 := hs
      have jl := tk_wd_lt hw
      have i11 : (s0 < 11) ↔ j9 < 11 := by rw [hs, show (11 : Int32) = nI 11 from rfl, nI_ltI (by omega) (by decide)]
      have i15 : (s0 ≤ 15) ↔ j9 ≤ 15 := by rw [hs, show (15 : Int32) = nI 15 from rfl, nI_leI (by omega) (by decide)]
      have i13 : (13 < s0) ↔ 13 < j9 := by rw [hs, show (13 : Int32) = nI 13 from rfl, nI_ltI (by decide) (by omega)]
      have ie11 : (s0 = 11) ↔ j9 = 11 := by rw [hs, show (11 : Int32) = nI 11 from rfl, nI_eq (by omega) (by decide)]
      have ie14 : (s0 = 14) ↔ j9 = 14 := by rw [hs, show (14 : Int32) = nI 14 from rfl, nI_eq (by omega) (by decide)]
      have mis : ¬ (11 ≤ j9 ∧ j9 ≤ 15) → rd_done tp X9.2.2.1 (X9.1 4 0) k9 pl = .error (1 + 16 * tk_place tp k9) := fun c9 => by
        unfold rd_done
        rw [hw]
        show (if 11 ≤ j9 ∧ j9 ≤ 15 then _ else rd_e tp 1 k9) = _
        rw [if_neg c9]; rfl
      by_cases c11 : j9 < 11
      · exact low (i11.mpr c11) (mis (by omega))
      · have n11 : ¬ s0 < 11 := fun c => c11 (i11.mp c)
        by_cases c15 : j9 ≤ 15
        · have y15 := i15.mpr c15
          obtain ⟨w9, rfl⟩ : ∃ w9, j9 = 11 + w9 := ⟨j9 - 11, by omega⟩
          by_cases c30 : pl.length < 30
          · have y30 := i30.mpr c30
            have eqd := rd_done_eq (tp := tp) (nm := X9.2.2.1) (n9 := X9.1 4 0) (pl := pl) hw (by omega) (by omega)
            have nx : pg_Ev S Λ YX7_next (d + 4) [.ref 1] M (fun r M' => r = none ∧ (rc_dz p9 tp pl M (.ok (k9 + 1)) M' ∧ rc_rf M M')) := by
              refine pg_Ev.imp ?_ (rc_rnext (S := S) (d := d + 1) hX hk hR)
              rintro q7 M9 ⟨y1, y2, y3⟩
              exact ⟨y1, dz0.rf h9 y3 y2, y3⟩
            have ex : ∀ z9 Mq, rc_dz p9 tp pl M z9 Mq → pg_Ev S Λ YX7_expectSign (d + 4) [.ref 1, .int 59] Mq (fun q M' => q = none ∧ rc_dz p9 tp pl M (tk_exp tp 59 z9) M') := fun z9 Mq g => rc_dexp h9 hX hk g
            have ad : ∀ z9 e9 v1 v2 v3 Mq, (∀ k9, z9 = .ok k9 → v1 = nI (11 + e9.1) ∧ v2 = (if e9.1 < 3 then nI e9.2.1 else -1) ∧ v3 = rc_det e9) → rc_dz p9 tp pl M z9 Mq → pg_Ev S Λ YX1_add (d + 4) [.ref p9, .int v1, .int v2, .int v3] Mq (fun q M' => q = none ∧ rc_dp p9 tp M (rd_ad z9 pl e9) M') := fun z9 e9 v1 v2 v3 Mq hv g => rc_dadd h9 c30 h1 hv g
            have nam : ∀ Mq, rc_dz p9 tp pl M (.ok (k9 + 1)) Mq ∧ rc_rf M Mq → pg_Ev S Λ YX7_readNamed (d + 4) [.ref 1, .ref l9] Mq (fun r M' => ∃ v, r = some (.int v) ∧ (rc_v tp M (rd_told tp X9.2.2.1 (X9.1 4 0) (k9 + 1)) (k9 + 2) v M')) := by
              rintro Mq ⟨g1, g2⟩
              refine pg_Ev.imp ?_ (rc_readNamed (S := S) (d := d) hX h5 hk ho g1.2.2 (by rw [g2.1.1 l9 (by simp; omega)]; exact hn) (hN.rf g2 hl))
              rintro q7 M9 ⟨v9, y1, y2, y3⟩
              exact ⟨v9, y1, g2.trans y2, y3⟩
            rcases (show w9 = 0 ∨ w9 = 1 ∨ w9 = 2 ∨ w9 = 3 ∨ w9 = 4 by omega) with hw9 | hw9 | hw9 | hw9 | hw9
            · -- hang
              have e11 := ie11.mpr (by omega)
              have n13 : ¬ 13 < s0 := fun c => by have := i13.mp c; omega
              have rdd : rd_deed tp X9.2.2.1 (X9.1 4 0) k9 w9 = rd_b (rd_told tp X9.2.2.1 (X9.1 4 0) (k9 + 1)) (fun c9 => rd_b (rd_pegs tp 6 (k9 + 2) 0 0) (fun r9 => .ok (r9.1, 0, c9, r9.2))) := by unfold rd_deed; rw [if_pos hw9]
              cases ht : rd_told tp X9.2.2.1 (X9.1 4 0) (k9 + 1) with
              | error e9 =>
                rw [ht] at nam
                rw [rdd, ht, rd_b_er, rd_b_er] at eqd
                refine sX7_readDone_16 (Q0 := fun _ => True) (Q1 := fun M' => rc_dz p9 tp pl M (.ok (k9 + 1)) M' ∧ rc_rf M M') (Q2 := fun _ => True) (Q3 := fun _ => True) (Q4 := fun _ _ => True) (Q5 := fun _ => True) (Q6 := fun _ => True) (Q7 := fun _ _ => True) (Q8 := fun _ => True) (Q9 := fun _ => True) (Q10 := fun v M' => rc_v tp M (.error e9) (k9 + 2) v M') (Q11 := fun _ => True) (Q12 := fun _ => True) (Q13 := fun _ _ => True) (Q14 := fun _ => True) (Q15 := fun _ => True) (Q16 := fun _ M' => rc_dz p9 tp pl M (.error e9) M') (Q17 := fun M' => rc_dz p9 tp pl M (.error e9) M') (Q18 := fun M' => rc_dp p9 tp M (rd_ad (.error e9) pl (0, 0, 0)) M') (Q19 := fun _ => True) (Q20 := fun _ => True) hX h1 (fun c => absurd c n11) (fun c => absurd c n11) (fun _ _ _ => nx) (fun _ _ _ _ _ c => absurd c n13) (fun _ _ _ _ _ c => absurd c n13) (fun _ _ _ _ _ c => absurd c n13) (fun _ _ _ _ _ c => absurd c n13) (fun _ _ _ _ _ c => absurd c n13) (fun _ _ _ _ _ c => absurd c n13) (fun _ _ _ _ _ c => absurd c n13) (fun _ _ _ _ _ c => absurd c n13) (fun _ _ _ _ _ c => absurd c n13) (fun _ _ _ _ _ c => absurd c n13) (fun _ _ _ _ _ c => absurd c n13) (fun _ _ _ Mq1 g9 _ => nam Mq1 g9) (fun _ _ _ _ _ _ _ _ _ c => absurd e11 c) (fun _ _ _ _ _ _ _ _ _ c => absurd e11 c) (fun _ _ _ _ _ _ _ _ _ c => absurd e11 c) (fun _ _ _ _ _ _ _ _ _ c => absurd e11 c) (fun _ _ _ _ _ _ _ _ _ c => absurd e11 c) (fun _ _ _ _ _ _ _ _ _ c => absurd e11 c) (fun _ _ _ _ _ _ _ _ _ c => absurd e11 c) (fun _ _ _ _ _ _ v9 Mq2 g9 _ => ?_) (fun _ _ _ _ _ _ _ _ _ _ v8 Mq3 g9 => ex (.error e9) Mq3 g9) (fun _ _ _ _ _ _ _ _ _ _ v8 Mq3 _ Mq4 g9 => ad (.error e9) (0, 0, 0) _ _ _ Mq4 (fun _ c => by cases c) g9) (fun _ _ _ _ _ _ _ _ _ _ _ _ _ _ _ Mq5 g9 => ⟨rfl, by rw [eqd]; exact g9⟩) (fun _ _ c => absurd y30 c) (fun _ _ c => absurd y30 c) (fun _ c => absurd y15 c) (fun _ c => absurd y15 c)
                refine pg_Ev.imp ?_ (rc_readPegs_e (S := S) (d := d) hX g9.2)
                rintro q7 M9 ⟨v7, y1, y2⟩
                exact ⟨v7, y1, by rw [y2]; exact dz0.rf h9 g9.1 g9.2⟩
              | ok c9 =>
                rw [ht] at nam
                rw [rdd, ht, rd_b_ok] at eqd
                have pgs : ∀ v9 Mq2, rc_v tp M (.ok c9) (k9 + 2) v9 Mq2 → pg_Ev S Λ YX7_readPegs (d + 4) [.ref 1] Mq2 (fun q M' => ∃ v, q = some (.int v) ∧ rc_pp tp M (rd_pegs tp 6 (k9 + 2) 0 0) v M') := by
                  rintro v9 Mq2 ⟨g1, g2, _⟩
                  refine pg_Ev.imp ?_ (rc_readPegs (S := S) (d := d) hX hk g2)
                  rintro q7 M9 ⟨v7, y1, y2, y3⟩
                  exact ⟨v7, y1, g1.trans y2, y3⟩
                cases hg : rd_pegs tp 6 (k9 + 2) 0 0 with
                | error e9 =>
                  rw [hg] at pgs
                  rw [hg, rd_b_er, rd_b_er] at eqd
                  exact sX7_readDone_16 (Q0 := fun _ => True) (Q1 := fun M' => rc_dz p9 tp pl M (.ok (k9 + 1)) M' ∧ rc_rf M M') (Q2 := fun _ => True) (Q3 := fun _ => True) (Q4 := fun _ _ => True) (Q5 := fun _ => True) (Q6 := fun _ => True) (Q7 := fun _ _ => True) (Q8 := fun _ => True) (Q9 := fun _ => True) (Q10 := fun v M' => rc_v tp M (.ok c9) (k9 + 2) v M') (Q11 := fun _ => True) (Q12 := fun _ => True) (Q13 := fun _ _ => True) (Q14 := fun _ => True) (Q15 := fun _ => True) (Q16 := fun v M' => rc_pp tp M (.error e9) v M') (Q17 := fun M' => rc_dz p9 tp pl M (.error e9) M') (Q18 := fun M' => rc_dp p9 tp M (rd_ad (.error e9) pl (0, 0, 0)) M') (Q19 := fun _ => True) (Q20 := fun _ => True) hX h1 (fun c => absurd c n11) (fun c => absurd c n11) (fun _ _ _ => nx) (fun _ _ _ _ _ c => absurd c n13) (fun _ _ _ _ _ c => absurd c n13) (fun _ _ _ _ _ c => absurd c n13) (fun _ _ _ _ _ c => absurd c n13) (fun _ _ _ _ _ c => absurd c n13) (fun _ _ _ _ _ c => absurd c n13) (fun _ _ _ _ _ c => absurd c n13) (fun _ _ _ _ _ c => absurd c n13) (fun _ _ _ _ _ c => absurd c n13) (fun _ _ _ _ _ c => absurd c n13) (fun _ _ _ _ _ c => absurd c n13) (fun _ _ _ Mq1 g9 _ => nam Mq1 g9) (fun _ _ _ _ _ _ _ _ _ c => absurd e11 c) (fun _ _ _ _ _ _ _ _ _ c => absurd e11 c) (fun _ _ _ _ _ _ _ _ _ c => absurd e11 c) (fun _ _ _ _ _ _ _ _ _ c => absurd e11 c) (fun _ _ _ _ _ _ _ _ _ c => absurd e11 c) (fun _ _ _ _ _ _ _ _ _ c => absurd e11 c) (fun _ _ _ _ _ _ _ _ _ c => absurd e11 c) (fun _ _ _ _ _ _ v9 Mq2 g9 _ => pgs v9 Mq2 g9) (fun _ _ _ _ _ _ _ _ _ _ v8 Mq3 g9 => ex (.error e9) Mq3 (dz0.rf h9 g9.1 g9.2)) (fun _ _ _ _ _ _ _ _ _ _ v8 Mq3 _ Mq4 g9 => ad (.error e9) (0, 0, 0) _ _ _ Mq4 (fun _ c => by cases c) g9) (fun _ _ _ _ _ _ _ _ _ _ _ _ _ _ _ Mq5 g9 => ⟨rfl, by rw [eqd]; exact g9⟩) (fun _ _ c => absurd y30 c) (fun _ _ c => absurd y30 c) (fun _ c => absurd y15 c) (fun _ c => absurd y15 c)
                | ok r9 =>
                  rw [hg] at pgs
                  rw [hg, rd_b_ok, rd_b_ok] at eqd
                  exact sX7_readDone_16 (Q0 := fun _ => True) (Q1 := fun M' => rc_dz p9 tp pl M (.ok (k9 + 1)) M' ∧ rc_rf M M') (Q2 := fun _ => True) (Q3 := fun _ => True) (Q4 := fun _ _ => True) (Q5 := fun _ => True) (Q6 := fun _ => True) (Q7 := fun _ _ => True) (Q8 := fun _ => True) (Q9 := fun _ => True) (Q10 := fun v M' => rc_v tp M (.ok c9) (k9 + 2) v M') (Q11 := fun _ => True) (Q12 := fun _ => True) (Q13 := fun _ _ => True) (Q14 := fun _ => True) (Q15 := fun _ => True) (Q16 := fun v M' => rc_pp tp M (.ok r9) v M') (Q17 := fun M' => rc_dz p9 tp pl M (tk_exp tp 59 (.ok r9.1)) M') (Q18 := fun M' => rc_dp p9 tp M (rd_ad (tk_exp tp 59 (.ok r9.1)) pl (0, c9, r9.2)) M') (Q19 := fun _ => True) (Q20 := fun _ => True) hX h1 (fun c => absurd c n11) (fun c => absurd c n11) (fun _ _ _ => nx) (fun _ _ _ _ _ c => absurd c n13) (fun _ _ _ _ _ c => absurd c n13) (fun _ _ _ _ _ c => absurd c n13) (fun _ _ _ _ _ c => absurd c n13) (fun _ _ _ _ _ c => absurd c n13) (fun _ _ _ _ _ c => absurd c n13) (fun _ _ _ _ _ c => absurd c n13) (fun _ _ _ _ _ c => absurd c n13) (fun _ _ _ _ _ c => absurd c n13) (fun _ _ _ _ _ c => absurd c n13) (fun _ _ _ _ _ c => absurd c n13) (fun _ _ _ Mq1 g9 _ => nam Mq1 g9) (fun _ _ _ _ _ _ _ _ _ c => absurd e11 c) (fun _ _ _ _ _ _ _ _ _ c => absurd e11 c) (fun _ _ _ _ _ _ _ _ _ c => absurd e11 c) (fun _ _ _ _ _ _ _ _ _ c => absurd e11 c) (fun _ _ _ _ _ _ _ _ _ c => absurd e11 c) (fun _ _ _ _ _ _ _ _ _ c => absurd e11 c) (fun _ _ _ _ _ _ _ _ _ c => absurd e11 c) (fun _ _ _ _ _ _ v9 Mq2 g9 _ => pgs v9 Mq2 g9) (fun _ _ _ _ _ _ _ _ _ _ v8 Mq3 g9 => ex (.ok r9.1) Mq3 (dz0.rf h9 g9.1 g9.2.1)) (fun _ _ _ _ _ _ v9 Mq2 g8 _ v8 Mq3 g7 Mq4 g9 => ad _ (0, c9, r9.2) _ _ _ Mq4 (fun _ _ => ⟨by rw [hs, hw9], g8.2.2, g7.2.2⟩) g9) (fun _ _ _ _ _ _ _ _ _ _ _ _ _ _ _ Mq5 g9 => ⟨rfl, by rw [eqd]; exact g9⟩) (fun _ _ c => absurd y30 c) (fun _ _ c => absurd y30 c) (fun _ c => absurd y15 c) (fun _ c => absurd y15 c)
            all_goals try (
              -- take, wash
              have hw12 : w9 = 1 ∨ w9 = 2 := by omega
              have ne11 : ¬ s0 = 11 := fun c => by have := ie11.mp c; omega
              have ne14 : ¬ s0 = 14 := fun c => by have := ie14.mp c; omega
              have n13 : ¬ 13 < s0 := fun c => by have := i13.mp c; omega
              have rdd : rd_deed tp X9.2.2.1 (X9.1 4 0) k9 w9 = rd_b (rd_told tp X9.2.2.1 (X9.1 4 0) (k9 + 1)) (fun c9 => .ok (k9 + 2, w9, c9, 0)) := by unfold rd_deed; rw [if_neg (by omega), if_pos (by omega)]
              cases ht : rd_told tp X9.2.2.1 (X9.1 4 0) (k9 + 1) with
              | error e9 =>
                rw [ht] at nam
                rw [rdd, ht, rd_b_er, rd_b_er] at eqd
                exact sX7_readDone_16 (Q0 := fun _ => True) (Q1 := fun M' => rc_dz p9 tp pl M (.ok (k9 + 1)) M' ∧ rc_rf M M') (Q2 := fun _ => True) (Q3 := fun _ => True) (Q4 := fun _ _ => True) (Q5 := fun _ => True) (Q6 := fun _ => True) (Q7 := fun _ _ => True) (Q8 := fun _ => True) (Q9 := fun _ => True) (Q10 := fun v M' => rc_v tp M (.error e9) (k9 + 2) v M') (Q11 := fun M' => rc_dz p9 tp pl M (.error e9) M') (Q12 := fun M' => rc_dp p9 tp M (rd_ad (.error e9) pl (0, 0, 0)) M') (Q13 := fun _ _ => True) (Q14 := fun _ => True) (Q15 := fun _ => True) (Q16 := fun _ _ => True) (Q17 := fun _ => True) (Q18 := fun _ => True) (Q19 := fun _ => True) (Q20 := fun _ => True) hX h1 (fun c => absurd c n11) (fun c => absurd c n11) (fun _ _ _ => nx) (fun _ _ _ _ _ c => absurd c n13) (fun _ _ _ _ _ c => absurd c n13) (fun _ _ _ _ _ c => absurd c n13) (fun _ _ _ _ _ c => absurd c n13) (fun _ _ _ _ _ c => absurd c n13) (fun _ _ _ _ _ c => absurd c n13) (fun _ _ _ _ _ c => absurd c n13) (fun _ _ _ _ _ c => absurd c n13) (fun _ _ _ _ _ c => absurd c n13) (fun _ _ _ _ _ c => absurd c n13) (fun _ _ _ _ _ c => absurd c n13) (fun _ _ _ Mq1 g9 _ => nam Mq1 g9) (fun _ _ _ _ _ _ v9 Mq2 g9 _ _ => ex (.error e9) Mq2 (dz0.rf h9 g9.1 g9.2)) (fun _ _ _ _ _ _ v9 Mq2 _ _ _ Mq3 g9 => ad (.error e9) (0, 0, 0) _ _ _ Mq3 (fun _ c => by cases c) g9) (fun _ _ _ _ _ _ v9 Mq2 _ _ _ Mq3 _ Mq4 g9 => ⟨rfl, by rw [eqd]; exact g9⟩) (fun _ _ _ _ _ _ _ _ _ _ c => absurd c ne14) (fun _ _ _ _ _ _ _ _ _ _ c => absurd c ne14) (fun _ _ _ _ _ _ _ _ _ _ c => absurd c ne14) (fun _ _ _ _ _ _ _ _ _ _ c => absurd c ne14) (fun _ _ _ _ _ _ _ _ _ c => absurd c ne11) (fun _ _ _ _ _ _ _ _ _ c => absurd c ne11) (fun _ _ _ _ _ _ _ _ _ c => absurd c ne11) (fun _ _ _ _ _ _ _ _ _ c => absurd c ne11) (fun _ _ c => absurd y30 c) (fun _ _ c => absurd y30 c) (fun _ c => absurd y15 c) (fun _ c => absurd y15 c)
              | ok c9 =>
                rw [ht] at nam
                rw [rdd, ht, rd_b_ok, rd_b_ok] at eqd
                exact sX7_readDone_16 (Q0 := fun _ => True) (Q1 := fun M' => rc_dz p9 tp pl M (.ok (k9 + 1)) M' ∧ rc_rf M M') (Q2 := fun _ => True) (Q3 := fun _ => True) (Q4 := fun _ _ => True) (Q5 := fun _ => True) (Q6 := fun _ => True) (Q7 := fun _ _ => True) (Q8 := fun _ => True) (Q9 := fun _ => True) (Q10 := fun v M' => rc_v tp M (.ok c9) (k9 + 2) v M') (Q11 := fun M' => rc_dz p9 tp pl M (tk_exp tp 59 (.ok (k9 + 2))) M') (Q12 := fun M' => rc_dp p9 tp M (rd_ad (tk_exp tp 59 (.ok (k9 + 2))) pl (w9, c9, 0)) M') (Q13 := fun _ _ => True) (Q14 := fun _ => True) (Q15 := fun _ => True) (Q16 := fun _ _ => True) (Q17 := fun _ => True) (Q18 := fun _ => True) (Q19 := fun _ => True) (Q20 := fun _ => True) hX h1 (fun c => absurd c n11) (fun c => absurd c n11) (fun _ _ _ => nx) (fun _ _ _ _ _ c => absurd c n13) (fun _ _ _ _ _ c => absurd c n13) (fun _ _ _ _ _ c => absurd c n13) (fun _ _ _ _ _ c => absurd c n13) (fun _ _ _ _ _ c => absurd c n13) (fun _ _ _ _ _ c => absurd c n13) (fun _ _ _ _ _ c => absurd c n13) (fun _ _ _ _ _ c => absurd c n13) (fun _ _ _ _ _ c => absurd c n13) (fun _ _ _ _ _ c => absurd c n13) (fun _ _ _ _ _ c => absurd c n13) (fun _ _ _ Mq1 g9 _ => nam Mq1 g9) (fun _ _ _ _ _ _ v9 Mq2 g9 _ _ => ex (.ok (k9 + 2)) Mq2 (dz0.rf h9 g9.1 g9.2.1)) (fun _ _ _ _ _ _ v9 Mq2 g8 _ _ Mq3 g9 => ad _ (w9, c9, 0) _ _ _ Mq3 (fun _ _ => ⟨hs, by rw [if_pos (show w9 < 3 by omega)]; exact g8.2.2, by unfold rc_det; rw [if_neg (show ¬ w9 = 0 by omega), if_neg (show ¬ w9 = 3 by omega)]⟩) g9) (fun _ _ _ _ _ _ v9 Mq2 _ _ _ Mq3 _ Mq4 g9 => ⟨rfl, by rw [eqd]; exact g9⟩) (fun _ _ _ _ _ _ _ _ _ _ c => absurd c ne14) (fun _ _ _ _ _ _ _ _ _ _ c => absurd c ne14) (fun _ _ _ _ _ _ _ _ _ _ c => absurd c ne14) (fun _ _ _ _ _ _ _ _ _ _ c => absurd c ne14) (fun _ _ _ _ _ _ _ _ _ c => absurd c ne11) (fun _ _ _ _ _ _ _ _ _ c => absurd c ne11) (fun _ _ _ _ _ _ _ _ _ c => absurd c ne11) (fun _ _ _ _ _ _ _ _ _ c => absurd c ne11) (fun _ _ c => absurd y30 c) (fun _ _ c => absurd y30 c) (fun _ c => absurd y15 c) (fun _ c => absurd y15 c))
            · -- buy
              have e14 := ie14.mpr (by omega)
              have y13 := i13.mpr (by omega)
              have ne11 : ¬ s0 = 11 := fun c => by have := ie11.mp c; omega
              have nn13 : ¬ ¬ 13 < s0 := fun c => c y13
              have rdd : rd_deed tp X9.2.2.1 (X9.1 4 0) k9 w9 = rd_b (rd_num tp 1 9 (k9 + 1)) (fun v9 => .ok (k9 + 2, 3, v9, 0)) := by unfold rd_deed; rw [if_neg (by omega), if_neg (by omega), if_pos hw9]
              have num : ∀ Mq, rc_dz p9 tp pl M (.ok (k9 + 1)) Mq ∧ rc_rf M Mq → pg_Ev S Λ YX7_readNumber (d + 4) [.ref 1, .int 1, .int 9] Mq (fun r M' => ∃ v, r = some (.int v) ∧ (rc_v tp M (rd_num tp 1 9 (k9 + 1)) (k9 + 2) v M')) := by
                rintro Mq ⟨g1, g2⟩
                refine pg_Ev.imp ?_ (rc_readNumber (S := S) (d := d) (lo := 1) (hi := 9) (by omega) (by omega) hX hk g1.2.2)
                rintro q7 M9 ⟨v9, y1, y2, y3⟩
                exact ⟨v9, y1, g2.trans y2, y3⟩
              cases ht : rd_num tp 1 9 (k9 + 1) with
              | error e9 =>
                rw [ht] at num
                rw [rdd, ht, rd_b_er, rd_b_er] at eqd
                exact sX7_readDone_16 (Q0 := fun _ => True) (Q1 := fun M' => rc_dz p9 tp pl M (.ok (k9 + 1)) M' ∧ rc_rf M M') (Q2 := fun _ => True) (Q3 := fun _ => True) (Q4 := fun v M' => rc_v tp M (.error e9) (k9 + 2) v M') (Q5 := fun M' => rc_dz p9 tp pl M (.error e9) M') (Q6 := fun M' => rc_dp p9 tp M (rd_ad (.error e9) pl (0, 0, 0)) M') (Q7 := fun _ _ => True) (Q8 := fun _ => True) (Q9 := fun _ => True) (Q10 := fun _ _ => True) (Q11 := fun _ => True) (Q12 := fun _ => True) (Q13 := fun _ _ => True) (Q14 := fun _ => True) (Q15 := fun _ => True) (Q16 := fun _ _ => True) (Q17 := fun _ => True) (Q18 := fun _ => True) (Q19 := fun _ => True) (Q20 := fun _ => True) hX h1 (fun c => absurd c n11) (fun c => absurd c n11) (fun _ _ _ => nx) (fun _ _ _ _ _ _ _ c => absurd e14 c) (fun _ _ _ _ _ _ _ c => absurd e14 c) (fun _ _ _ _ _ _ _ c => absurd e14 c) (fun _ _ _ Mq1 g9 _ _ _ => num Mq1 g9) (fun _ _ _ _ _ _ _ _ v9 Mq2 g9 => ex (.error e9) Mq2 (dz0.rf h9 g9.1 g9.2)) (fun _ _ _ _ _ _ _ _ v9 Mq2 _ Mq3 g9 => ad (.error e9) (0, 0, 0) _ _ _ Mq3 (fun _ c => by cases c) g9) (fun _ _ _ _ _ _ _ _ v9 Mq2 _ Mq3 _ Mq4 g9 => ⟨rfl, by rw [eqd]; exact g9⟩) (fun _ _ _ _ _ _ c => absurd c ne11) (fun _ _ _ _ _ _ c => absurd c ne11) (fun _ _ _ _ _ _ c => absurd c ne11) (fun _ _ _ _ _ _ c => absurd c ne11) (fun _ _ _ _ _ c => absurd c nn13) (fun _ _ _ _ _ c => absurd c nn13) (fun _ _ _ _ _ c => absurd c nn13) (fun _ _ _ _ _ c => absurd c nn13) (fun _ _ _ _ _ c => absurd c nn13) (fun _ _ _ _ _ c => absurd c nn13) (fun _ _ _ _ _ c => absurd c nn13) (fun _ _ _ _ _ c => absurd c nn13) (fun _ _ _ _ _ c => absurd c nn13) (fun _ _ _ _ _ c => absurd c nn13) (fun _ _ _ _ _ c => absurd c nn13) (fun _ _ _ _ _ c => absurd c nn13) (fun _ _ c => absurd y30 c) (fun _ _ c => absurd y30 c) (fun _ c => absurd y15 c) (fun _ c => absurd y15 c)
              | ok c9 =>
                rw [ht] at num
                rw [rdd, ht, rd_b_ok, rd_b_ok] at eqd
                exact sX7_readDone_16 (Q0 := fun _ => True) (Q1 := fun M' => rc_dz p9 tp pl M (.ok (k9 + 1)) M' ∧ rc_rf M M') (Q2 := fun _ => True) (Q3 := fun _ => True) (Q4 := fun v M' => rc_v tp M (.ok c9) (k9 + 2) v M') (Q5 := fun M' => rc_dz p9 tp pl M (tk_exp tp 59 (.ok (k9 + 2))) M') (Q6 := fun M' => rc_dp p9 tp M (rd_ad (tk_exp tp 59 (.ok (k9 + 2))) pl (3, c9, 0)) M') (Q7 := fun _ _ => True) (Q8 := fun _ => True) (Q9 := fun _ => True) (Q10 := fun _ _ => True) (Q11 := fun _ => True) (Q12 := fun _ => True) (Q13 := fun _ _ => True) (Q14 := fun _ => True) (Q15 := fun _ => True) (Q16 := fun _ _ => True) (Q17 := fun _ => True) (Q18 := fun _ => True) (Q19 := fun _ => True) (Q20 := fun _ => True) hX h1 (fun c => absurd c n11) (fun c => absurd c n11) (fun _ _ _ => nx) (fun _ _ _ _ _ _ _ c => absurd e14 c) (fun _ _ _ _ _ _ _ c => absurd e14 c) (fun _ _ _ _ _ _ _ c => absurd e14 c) (fun _ _ _ Mq1 g9 _ _ _ => num Mq1 g9) (fun _ _ _ _ _ _ _ _ v9 Mq2 g9 => ex (.ok (k9 + 2)) Mq2 (dz0.rf h9 g9.1 g9.2.1)) (fun _ _ _ _ _ _ _ _ v9 Mq2 g8 Mq3 g9 => ad _ (3, c9, 0) _ _ _ Mq3 (fun _ _ => ⟨by rw [hs, hw9], rfl, g8.2.2⟩) g9) (fun _ _ _ _ _ _ _ _ v9 Mq2 _ Mq3 _ Mq4 g9 => ⟨rfl, by rw [eqd]; exact g9⟩) (fun _ _ _ _ _ _ c => absurd c ne11) (fun _ _ _ _ _ _ c => absurd c ne11) (fun _ _ _ _ _ _ c => absurd c ne11) (fun _ _ _ _ _ _ c => absurd c ne11) (fun _ _ _ _ _ c => absurd c nn13) (fun _ _ _ _ _ c => absurd c nn13) (fun _ _ _ _ _ c => absurd c nn13) (fun _ _ _ _ _ c => absurd c nn13) (fun _ _ _ _ _ c => absurd c nn13) (fun _ _ _ _ _ c => absurd c nn13) (fun _ _ _ _ _ c => absurd c nn13) (fun _ _ _ _ _ c => absurd c nn13) (fun _ _ _ _ _ c => absurd c nn13) (fun _ _ _ _ _ c => absurd c nn13) (fun _ _ _ _ _ c => absurd c nn13) (fun _ _ _ _ _ c => absurd c nn13) (fun _ _ c => absurd y30 c) (fun _ _ c => absurd y30 c) (fun _ c => absurd y15 c) (fun _ c => absurd y15 c)
            · -- hour
              have ne14 : ¬ s0 = 14 := fun c => by have := ie14.mp c; omega
              have y13 := i13.mpr (by omega)
              have ne11 : ¬ s0 = 11 := fun c => by have := ie11.mp c; omega
              have nn13 : ¬ ¬ 13 < s0 := fun c => c y13
              have rdd : rd_deed tp X9.2.2.1 (X9.1 4 0) k9 w9 = .ok (k9 + 1, 4, 0, 0) := by unfold rd_deed; rw [if_neg (by omega), if_neg (by omega), if_neg (by omega)]
              rw [rdd, rd_b_ok] at eqd
              exact sX7_readDone_16 (Q0 := fun _ => True) (Q1 := fun M' => rc_dz p9 tp pl M (.ok (k9 + 1)) M' ∧ rc_rf M M') (Q2 := fun M' => rc_dz p9 tp pl M (tk_exp tp 59 (.ok (k9 + 1))) M') (Q3 := fun M' => rc_dp p9 tp M (rd_ad (tk_exp tp 59 (.ok (k9 + 1))) pl (4, 0, 0)) M') (Q4 := fun _ _ => True) (Q5 := fun _ => True) (Q6 := fun _ => True) (Q7 := fun _ _ => True) (Q8 := fun _ => True) (Q9 := fun _ => True) (Q10 := fun _ _ => True) (Q11 := fun _ => True) (Q12 := fun _ => True) (Q13 := fun _ _ => True) (Q14 := fun _ => True) (Q15 := fun _ => True) (Q16 := fun _ _ => True) (Q17 := fun _ => True) (Q18 := fun _ => True) (Q19 := fun _ => True) (Q20 := fun _ => True) hX h1 (fun c => absurd c n11) (fun c => absurd c n11) (fun _ _ _ => nx) (fun _ _ _ Mq1 g9 _ _ _ => ex (.ok (k9 + 1)) Mq1 g9.1) (fun _ _ _ _ _ _ _ _ Mq3 g9 => ad _ (4, 0, 0) _ _ _ Mq3 (fun _ _ => ⟨by rw [hs, hw9], rfl, rfl⟩) g9) (fun _ _ _ _ _ _ _ _ Mq3 _ Mq4 g9 => ⟨rfl, by rw [eqd]; exact g9⟩) (fun _ _ _ _ _ _ _ c => absurd c ne14) (fun _ _ _ _ _ _ _ c => absurd c ne14) (fun _ _ _ _ _ _ _ c => absurd c ne14) (fun _ _ _ _ _ _ _ c => absurd c ne14) (fun _ _ _ _ _ _ c => absurd c ne11) (fun _ _ _ _ _ _ c => absurd c ne11) (fun _ _ _ _ _ _ c => absurd c ne11) (fun _ _ _ _ _ _ c => absurd c ne11) (fun _ _ _ _ _ c => absurd c nn13) (fun _ _ _ _ _ c => absurd c nn13) (fun _ _ _ _ _ c => absurd c nn13) (fun _ _ _ _ _ c => absurd c nn13) (fun _ _ _ _ _ c => absurd c nn13) (fun _ _ _ _ _ c => absurd c nn13) (fun _ _ _ _ _ c => absurd c nn13) (fun _ _ _ _ _ c => absurd c nn13) (fun _ _ _ _ _ c => absurd c nn13) (fun _ _ _ _ _ c => absurd c nn13) (fun _ _ _ _ _ c => absurd c nn13) (fun _ _ _ _ _ c => absurd c nn13) (fun _ _ c => absurd y30 c) (fun _ _ c => absurd y30 c) (fun _ c => absurd y15 c) (fun _ c => absurd y15 c)
          · have n30 : ¬ M.1 p9 3 < 30 := fun c => c30 (i30.mp c)
            have he : rd_done tp X9.2.2.1 (X9.1 4 0) k9 pl = .error (5 + 16 * tk_place tp k9) := by
              unfold rd_done
              rw [hw]
              show (if 11 ≤ 11 + w9 ∧ 11 + w9 ≤ 15 then (if pl.length = 30 then rd_e tp 5 k9 else _) else rd_e tp 1 k9) = _
              rw [if_pos (by omega), if_pos (by omega)]; rfl
            exact sX7_readDone_16 (Q0 := fun _ => True) (Q1 := fun _ => True) (Q2 := fun _ => True) (Q3 := fun _ => True) (Q4 := fun _ _ => True) (Q5 := fun _ => True) (Q6 := fun _ => True) (Q7 := fun _ _ => True) (Q8 := fun _ => True) (Q9 := fun _ => True) (Q10 := fun _ _ => True) (Q11 := fun _ => True) (Q12 := fun _ => True) (Q13 := fun _ _ => True) (Q14 := fun _ => True) (Q15 := fun _ => True) (Q16 := fun _ _ => True) (Q17 := fun _ => True) (Q18 := fun _ => True) (Q19 := fun M' => rc_dp p9 tp M (rd_done tp X9.2.2.1 (X9.1 4 0) k9 pl) M') (Q20 := fun _ => True) hX h1 (fun c => absurd c n11) (fun c => absurd c n11) (fun _ _ c => absurd c n30) (fun _ _ c => absurd c n30) (fun _ _ c => absurd c n30) (fun _ _ c => absurd c n30) (fun _ _ c => absurd c n30) (fun _ _ c => absurd c n30) (fun _ _ c => absurd c n30) (fun _ _ c => absurd c n30) (fun _ _ c => absurd c n30) (fun _ _ c => absurd c n30) (fun _ _ c => absurd c n30) (fun _ _ c => absurd c n30) (fun _ _ c => absurd c n30) (fun _ _ c => absurd c n30) (fun _ _ c => absurd c n30) (fun _ _ c => absurd c n30) (fun _ _ c => absurd c n30) (fun _ _ c => absurd c n30) (fun _ _ c => absurd c n30) (fun _ _ c => absurd c n30) (fun _ _ c => absurd c n30) (fun _ _ c => absurd c n30) (fun _ _ c => absurd c n30) (fun _ _ c => absurd c n30) (fun _ _ _ => ff 5 (by omega) (by omega) he) (fun _ _ _ Mq1 g9 => ⟨rfl, g9⟩) (fun _ c => absurd y15 c) (fun _ c => absurd y15 c)
        · have n15 : ¬ s0 ≤ 15 := fun c => c15 (i15.mp c)
          exact sX7_readDone_16 (Q0 := fun _ => True) (Q1 := fun _ => True) (Q2 := fun _ => True) (Q3 := fun _ => True) (Q4 := fun _ _ => True) (Q5 := fun _ => True) (Q6 := fun _ => True) (Q7 := fun _ _ => True) (Q8 := fun _ => True) (Q9 := fun _ => True) (Q10 := fun _ _ => True) (Q11 := fun _ => True) (Q12 := fun _ => True) (Q13 := fun _ _ => True) (Q14 := fun _ => True) (Q15 := fun _ => True) (Q16 := fun _ _ => True) (Q17 := fun _ => True) (Q18 := fun _ => True) (Q19 := fun _ => True) (Q20 := fun M' => rc_dp p9 tp M (rd_done tp X9.2.2.1 (X9.1 4 0) k9 pl) M') hX h1 (fun c => absurd c n11) (fun c => absurd c n11) (fun _ c => absurd c n15) (fun _ c => absurd c n15) (fun _ c => absurd c n15) (fun _ c => absurd c n15) (fun _ c => absurd c n15) (fun _ c => absurd c n15) (fun _ c => absurd c n15) (fun _ c => absurd c n15) (fun _ c => absurd c n15) (fun _ c => absurd c n15) (fun _ c => absurd c n15) (fun _ c => absurd c n15) (fun _ c => absurd c n15) (fun _ c => absurd c n15) (fun _ c => absurd c n15) (fun _ c => absurd c n15) (fun _ c => absurd c n15) (fun _ c => absurd c n15) (fun _ c => absurd c n15) (fun _ c => absurd c n15) (fun _ c => absurd c n15) (fun _ c => absurd c n15) (fun _ c => absurd c n15) (fun _ c => absurd c n15) (fun _ c => absurd c n15) (fun _ c => absurd c n15) (fun _ _ => ff 1 (by omega) (by omega) (mis (by omega))) (fun _ _ Mq1 g9 => ⟨rfl, g9⟩)
  refine oX7_readDone (sX7_readDone_0 hX (fun q9 => key _ ?_) (fun q9 => key _ ?_))
  · have nt : ¬ (tk_tok tp k9).1 = 2 := fun c => q9 (s2.mpr c)
    cases hw : tk_wd (tk_tok tp k9) with
    | none => rfl
    | some j9 => exact absurd (tk_wd_2 hw) nt
  · have mw := hR.tk.w (s2.mp q9)
    cases hw : tk_wd (tk_tok tp k9) with
    | none => rw [hw] at mw; exact mw
    | some j9 => rw [hw] at mw; exact mw
end PGR
