/-! LINES: the class reads a line to its end -/
section PGR
variable {S : pg_S} {Λ : pg_L} {d k9 l9 : Nat} {M : pg_M} {tp : List Nat} {X9 : rd_X}
theorem rc_semi {x9 : Except Nat (Nat × rd_X)} {Mq1 : pg_M} (hl : 3 ≤ l9) (hX : pg_isX7 Λ) (hk : tk_ok tp) (g : rc_lp l9 tp M x9 Mq1) : pg_Ev S Λ YX7_expectSign (d + 4) [.ref 1, .int 59] Mq1 (fun q M' => q = none ∧ rc_lp l9 tp M (rd_semi tp x9) M') := by
  obtain ⟨g1, g2⟩ := g
  cases x9 with
  | error e9 =>
    refine pg_Ev.imp ?_ (rc_expect (S := S) (d := d) (c9 := 59) (by omega) (by decide) hX hk g2)
    rintro q7 M9 ⟨y1, y2, y3⟩
    exact ⟨y1, g1.trans y3.lf, y2⟩
  | ok p9 =>
    refine pg_Ev.imp ?_ (rc_expect (S := S) (d := d) (c9 := 59) (by omega) (by decide) hX hk g2.1)
    rintro q7 M9 ⟨y1, y2, y3⟩
    refine ⟨y1, g1.trans y3.lf, ?_⟩
    unfold rd_semi
    rw [rd_b_ok]
    by_cases c9 : tk_tok tp p9.1 = (4, [59])
    · have y2 : rc_R M9 tp (if tk_tok tp p9.1 = (4, [59]) then .ok (p9.1 + 1) else .error (1 + 16 * tk_place tp p9.1)) := y2
      rw [if_pos c9] at y2 ⊢
      exact ⟨y2, g2.2.rf y3 hl⟩
    · have y2 : rc_R M9 tp (if tk_tok tp p9.1 = (4, [59]) then .ok (p9.1 + 1) else .error (1 + 16 * tk_place tp p9.1)) := y2
      rw [if_neg c9] at y2 ⊢
      exact y2
theorem rc_readTold (hl : 3 ≤ l9) (hX : pg_isX7 Λ) (h5 : pg_isX5 Λ l9) (hk : tk_ok tp) (ho : rd_ok X9) (hR : rc_R M tp (.ok k9)) (hx : rc_rX M l9 X9) : pg_Ev S Λ YX7_readTold (d + 35) [.ref 1, .ref l9] M (fun q M' => q = none ∧ rc_lp l9 tp M (rd_semi tp (rd_stmt tp k9 X9)) M') := by
  have s2 := hR.tk.s0 (c9 := 2) hk (by omega)
  have sem : ∀ Mq, rc_lp l9 tp M (rd_stmt tp k9 X9) Mq → pg_Ev S Λ YX7_expectSign (d + 34) [.ref 1, .int 59] Mq (fun q M' => q = none ∧ rc_lp l9 tp M (rd_semi tp (rd_stmt tp k9 X9)) M') := fun Mq g => pg_Ev.mono (by omega) (rc_semi (d := d) hl hX hk g)
  have f1 : rd_stmt tp k9 X9 = .error (1 + 16 * tk_place tp k9) → pg_Ev S Λ YX7_fail (d + 34) [.ref 1, .int 1] M (fun q M' => q = none ∧ rc_lp l9 tp M (rd_stmt tp k9 X9) M') := fun he => by
    refine pg_Ev.imp ?_ (rc_rfail (S := S) (d := d + 34) (n9 := 1) (by omega) (by omega) hX hk hR)
    rintro q7 M9 ⟨y1, y2, y3⟩
    rw [he]
    exact ⟨y1, y3.lf, y2⟩
  have key : ∀ s0 : Int32, (match tk_wd (tk_tok tp k9) with
      | some j9 => s0 = nI j9
      | none => s0 = -1) → pg_At S Λ YX7_readTold (d + 35) 16 [(0, .ref 1), (1, .ref l9)] [.int s0] M (fun q M' => q = none ∧ rc_lp l9 tp M (rd_semi tp (rd_stmt tp k9 X9)) M') := by
    intro s0 hs
    cases hw : tk_wd (tk_tok tp k9) with
    | none =>
      rw [hw] at hs
      have hs : s0 = -1 := hs
      have he : rd_stmt tp k9 X9 = .error (1 + 16 * tk_place tp k9) := by unfold rd_stmt; rw [hw]; rfl
      have n0 : ¬ s0 = 0 := by rw [hs]; decide
      have n8 : ¬ s0 = 8 := by rw [hs]; decide
      have n4 : s0 < 4 := by rw [hs]; decide
      exact sX7_readTold_16 (Q0 := fun M' => rc_lp l9 tp M (rd_stmt tp k9 X9) M') (Q1 := fun M' => rc_lp l9 tp M (rd_semi tp (rd_stmt tp k9 X9)) M') (Q2 := fun _ => True) (Q3 := fun _ => True) (Q4 := fun _ => True) (Q5 := fun _ => True) (Q6 := fun _ => True) (Q7 := fun _ => True) (Q8 := fun _ => True) (Q9 := fun _ => True) hX (fun _ _ _ => f1 he) (fun _ _ _ Mq1 g9 => sem Mq1 g9) (fun _ _ _ _ _ Mq2 g9 => ⟨rfl, g9⟩) (fun _ _ c => absurd n4 c) (fun _ _ c => absurd n4 c) (fun _ _ c => absurd n4 c) (fun _ _ c => absurd n4 c) (fun _ _ c => absurd n4 c) (fun _ _ c => absurd n4 c) (fun _ c => absurd c n8) (fun _ c => absurd c n8) (fun _ c => absurd c n8) (fun c => absurd c n0) (fun c => absurd c n0) (fun c => absurd c n0)
    | some j9 =>
      rw [hw] at hs
      have hs : s0 = nI j9 := hs
      have jl := tk_wd_lt hw
      have kl : k9 + 1 ≤ tp.length := tk_in (by rw [tk_wd_2 hw]; decide)
      have i0 : (s0 = 0) ↔ j9 = 0 := by rw [hs, ← nI_0, nI_eq (by omega) (by decide)]
      have i8 : (s0 = 8) ↔ j9 = 8 := by rw [hs, show (8 : Int32) = nI 8 from rfl, nI_eq (by omega) (by decide)]
      have i4 : (s0 < 4) ↔ j9 < 4 := by rw [hs, show (4 : Int32) = nI 4 from rfl, nI_ltI (by omega) (by decide)]
      have i10 : (10 < s0) ↔ 10 < j9 := by rw [hs, show (10 : Int32) = nI 10 from rfl, nI_ltI (by decide) (by omega)]
      have hst : rd_stmt tp k9 X9 = (if j9 = 0 then rd_cloth tp k9 X9 else if j9 = 8 then rd_clash tp k9 X9 else if 4 ≤ j9 ∧ j9 ≤ 10 then rd_once tp k9 (if j9 < 8 then j9 - 4 else j9 - 5) X9 else rd_e tp 1 k9) := by unfold rd_stmt; rw [hw]
      by_cases c0 : j9 = 0
      · have y0 := i0.mpr c0
        rw [if_pos c0] at hst
        have rc := pg_Ev.mono (d' := d + 34) (by omega) (rc_readCloth (S := S) (Λ := Λ) (d := d) hl hX h5 hk ho hR hx)
        rw [← hst] at rc
        exact sX7_readTold_16 (Q0 := fun _ => True) (Q1 := fun _ => True) (Q2 := fun _ => True) (Q3 := fun _ => True) (Q4 := fun _ => True) (Q5 := fun _ => True) (Q6 := fun _ => True) (Q7 := fun _ => True) (Q8 := fun M' => rc_lp l9 tp M (rd_stmt tp k9 X9) M') (Q9 := fun M' => rc_lp l9 tp M (rd_semi tp (rd_stmt tp k9 X9)) M') hX (fun c => absurd y0 c) (fun c => absurd y0 c) (fun c => absurd y0 c) (fun c => absurd y0 c) (fun c => absurd y0 c) (fun c => absurd y0 c) (fun c => absurd y0 c) (fun c => absurd y0 c) (fun c => absurd y0 c) (fun c => absurd y0 c) (fun c => absurd y0 c) (fun c => absurd y0 c) (fun _ => rc) (fun _ Mq1 g9 => sem Mq1 g9) (fun _ _ _ Mq2 g9 => ⟨rfl, g9⟩)
      · have n0 : ¬ s0 = 0 := fun c => c0 (i0.mp c)
        rw [if_neg c0] at hst
        by_cases c8 : j9 = 8
        · have y8 := i8.mpr c8
          rw [if_pos c8] at hst
          have rc := pg_Ev.mono (d' := d + 34) (by omega) (rc_readClash (S := S) (Λ := Λ) (d := d) hl hX h5 hk ho hR hx)
          rw [← hst] at rc
          exact sX7_readTold_16 (Q0 := fun _ => True) (Q1 := fun _ => True) (Q2 := fun _ => True) (Q3 := fun _ => True) (Q4 := fun _ => True) (Q5 := fun _ => True) (Q6 := fun M' => rc_lp l9 tp M (rd_stmt tp k9 X9) M') (Q7 := fun M' => rc_lp l9 tp M (rd_semi tp (rd_stmt tp k9 X9)) M') (Q8 := fun _ => True) (Q9 := fun _ => True) hX (fun _ c => absurd y8 c) (fun _ c => absurd y8 c) (fun _ c => absurd y8 c) (fun _ c => absurd y8 c) (fun _ c => absurd y8 c) (fun _ c => absurd y8 c) (fun _ c => absurd y8 c) (fun _ c => absurd y8 c) (fun _ c => absurd y8 c) (fun _ _ => rc) (fun _ _ Mq1 g9 => sem Mq1 g9) (fun _ _ _ _ Mq2 g9 => ⟨rfl, g9⟩) (fun c => absurd c n0) (fun c => absurd c n0) (fun c => absurd c n0)
        · have n8 : ¬ s0 = 8 := fun c => c8 (i8.mp c)
          rw [if_neg c8] at hst
          by_cases c4 : j9 < 4
          · have y4 := i4.mpr c4
            rw [if_neg (by omega)] at hst
            exact sX7_readTold_16 (Q0 := fun M' => rc_lp l9 tp M (rd_stmt tp k9 X9) M') (Q1 := fun M' => rc_lp l9 tp M (rd_semi tp (rd_stmt tp k9 X9)) M') (Q2 := fun _ => True) (Q3 := fun _ => True) (Q4 := fun _ => True) (Q5 := fun _ => True) (Q6 := fun _ => True) (Q7 := fun _ => True) (Q8 := fun _ => True) (Q9 := fun _ => True) hX (fun _ _ _ => f1 hst) (fun _ _ _ Mq1 g9 => sem Mq1 g9) (fun _ _ _ _ _ Mq2 g9 => ⟨rfl, g9⟩) (fun _ _ c => absurd y4 c) (fun _ _ c => absurd y4 c) (fun _ _ c => absurd y4 c) (fun _ _ c => absurd y4 c) (fun _ _ c => absurd y4 c) (fun _ _ c => absurd y4 c) (fun _ c => absurd c n8) (fun _ c => absurd c n8) (fun _ c => absurd c n8) (fun c => absurd c n0) (fun c => absurd c n0) (fun c => absurd c n0)
          · have n4 : ¬ s0 < 4 := fun c => c4 (i4.mp c)
            by_cases c10 : 10 < j9
            · have y10 := i10.mpr c10
              rw [if_neg (by omega)] at hst
              exact sX7_readTold_16 (Q0 := fun _ => True) (Q1 := fun _ => True) (Q2 := fun M' => rc_lp l9 tp M (rd_stmt tp k9 X9) M') (Q3 := fun M' => rc_lp l9 tp M (rd_semi tp (rd_stmt tp k9 X9)) M') (Q4 := fun _ => True) (Q5 := fun _ => True) (Q6 := fun _ => True) (Q7 := fun _ => True) (Q8 := fun _ => True) (Q9 := fun _ => True) hX (fun _ _ c => absurd c n4) (fun _ _ c => absurd c n4) (fun _ _ c => absurd c n4) (fun _ _ _ _ => f1 hst) (fun _ _ _ _ Mq1 g9 => sem Mq1 g9) (fun _ _ _ _ _ _ Mq2 g9 => ⟨rfl, g9⟩) (fun _ _ _ c => absurd y10 c) (fun _ _ _ c => absurd y10 c) (fun _ _ _ c => absurd y10 c) (fun _ c => absurd c n8) (fun _ c => absurd c n8) (fun _ c => absurd c n8) (fun c => absurd c n0) (fun c => absurd c n0) (fun c => absurd c n0)
            · have n10 : ¬ 10 < s0 := fun c => c10 (i10.mp c)
              rw [if_pos (by omega)] at hst
              have rc := rc_readOnce (S := S) (Λ := Λ) (d := d) (q9 := if j9 < 8 then j9 - 4 else j9 - 5) (by split <;> omega) kl hl hX h5 hk ho hR hx
              have ej : rd_j (if j9 < 8 then j9 - 4 else j9 - 5) = j9 := by
                unfold rd_j
                repeat' split
                all_goals omega
              rw [← hst, ej, ← hs] at rc
              exact sX7_readTold_16 (Q0 := fun _ => True) (Q1 := fun _ => True) (Q2 := fun _ => True) (Q3 := fun _ => True) (Q4 := fun M' => rc_lp l9 tp M (rd_stmt tp k9 X9) M') (Q5 := fun M' => rc_lp l9 tp M (rd_semi tp (rd_stmt tp k9 X9)) M') (Q6 := fun _ => True) (Q7 := fun _ => True) (Q8 := fun _ => True) (Q9 := fun _ => True) hX (fun _ _ c => absurd c n4) (fun _ _ c => absurd c n4) (fun _ _ c => absurd c n4) (fun _ _ _ c => absurd c n10) (fun _ _ _ c => absurd c n10) (fun _ _ _ c => absurd c n10) (fun _ _ _ _ => rc) (fun _ _ _ _ Mq1 g9 => sem Mq1 g9) (fun _ _ _ _ _ _ Mq2 g9 => ⟨rfl, g9⟩) (fun _ c => absurd c n8) (fun _ c => absurd c n8) (fun _ c => absurd c n8) (fun c => absurd c n0) (fun c => absurd c n0) (fun c => absurd c n0)
  refine oX7_readTold (sX7_readTold_0 hX (fun q9 => key _ ?_) (fun q9 => key _ ?_))
  · have nt : ¬ (tk_tok tp k9).1 = 2 := fun c => q9 (s2.mpr c)
    cases hw : tk_wd (tk_tok tp k9) with
    | none => rfl
    | some j9 => exact absurd (tk_wd_2 hw) nt
  · have mw := hR.tk.w (s2.mp q9)
    cases hw : tk_wd (tk_tok tp k9) with
    | none => rw [hw] at mw; exact mw
    | some j9 => rw [hw] at mw; exact mw
/-- a Line as always -/
theorem rc_lclear (hl : 3 ≤ l9) (h5 : pg_isX5 Λ l9) : pg_Ev S Λ YX5_clear (d + 1) [.ref l9] M (fun q M' => q = none ∧ (rc_L M' l9 rd_X0.1 rd_X0.2.1 ∧ pg_fr [l9, l9 + 6, l9 + 8, l9 + 9, l9 + 10, l9 + 12, l9 + 13] M M')) := by
  have h8 := h5.r8
  have h9 := h5.r9
  have ad : ∀ (r9 : Nat) (cs : List (Nat × Int32)) (e9 : Nat × Int32) (v9 : Int32) (Mq Mq1 : pg_M), v9 = gr_c e9 → cs.length < 1000 → 3 ≤ r9 → pg_isX8 Λ r9 → pg_fr [r9, r9 + 1] Mq Mq1 → rc_U Mq1 r9 cs → pg_Ev S Λ YX8_add d [.ref r9, .int v9] Mq1 (fun q M' => q = none ∧ (pg_fr [r9, r9 + 1] Mq M' ∧ rc_U M' r9 (cs ++ [e9]))) := by
    intro r9 cs e9 v9 Mq Mq1 hv hc hr h8 g1 g2
    refine pg_Ev.imp ?_ (rc_radd (S := S) (d := d) hv hc hr h8 g2)
    rintro q7 M9 ⟨y1, y2, y3⟩
    exact ⟨y1, g1.trans y3, y2⟩
  have cl : ∀ (r9 : Nat) (Mq : pg_M), pg_isX8 Λ r9 → pg_Ev S Λ YX8_clear d [.ref r9] Mq (fun q M' => q = none ∧ (pg_fr [r9, r9 + 1] Mq M' ∧ rc_U M' r9 [])) := by
    intro r9 Mq h8
    refine pg_Ev.imp ?_ (rc_rclear (S := S) (d := d) h8)
    rintro q7 M9 ⟨y1, y2, y3⟩
    exact ⟨y1, y3.mono (fun b9 hb => by simp at hb ⊢; omega), y2⟩
  refine oX5_clear (sX5_clear_0
    (Q0 := fun M' => pg_fr [l9 + 9, l9 + 9 + 1] (pg_si (pg_si (pg_si (pg_si (pg_si (pg_si (pg_si (pg_sa M (l9 + 6) (fun j => if j < 6 then 0 else M.1 (l9 + 6) j)) l9 10 0) l9 11 0) (l9 + 8) (0 : Int32).toNatClampNeg 3) l9 12 1) l9 13 20) l9 14 0) l9 15 0) M' ∧ rc_U M' (l9 + 9) [])
    (Q1 := fun M' => pg_fr [l9 + 9, l9 + 9 + 1] (pg_si (pg_si (pg_si (pg_si (pg_si (pg_si (pg_si (pg_sa M (l9 + 6) (fun j => if j < 6 then 0 else M.1 (l9 + 6) j)) l9 10 0) l9 11 0) (l9 + 8) (0 : Int32).toNatClampNeg 3) l9 12 1) l9 13 20) l9 14 0) l9 15 0) M' ∧ rc_U M' (l9 + 9) [(2, 0)])
    (Q2 := fun M' => pg_fr [l9 + 9, l9 + 9 + 1] (pg_si (pg_si (pg_si (pg_si (pg_si (pg_si (pg_si (pg_sa M (l9 + 6) (fun j => if j < 6 then 0 else M.1 (l9 + 6) j)) l9 10 0) l9 11 0) (l9 + 8) (0 : Int32).toNatClampNeg 3) l9 12 1) l9 13 20) l9 14 0) l9 15 0) M' ∧ rc_U M' (l9 + 9) [(2, 0), (2, 2)])
    (Q3 := fun M' => pg_fr [l9 + 9, l9 + 9 + 1] (pg_si (pg_si (pg_si (pg_si (pg_si (pg_si (pg_si (pg_sa M (l9 + 6) (fun j => if j < 6 then 0 else M.1 (l9 + 6) j)) l9 10 0) l9 11 0) (l9 + 8) (0 : Int32).toNatClampNeg 3) l9 12 1) l9 13 20) l9 14 0) l9 15 0) M' ∧ rc_U M' (l9 + 9) [(2, 0), (2, 2), (4, 0)])
    (Q4 := fun M' => pg_fr [l9 + 9, l9 + 9 + 1] (pg_si (pg_si (pg_si (pg_si (pg_si (pg_si (pg_si (pg_sa M (l9 + 6) (fun j => if j < 6 then 0 else M.1 (l9 + 6) j)) l9 10 0) l9 11 0) (l9 + 8) (0 : Int32).toNatClampNeg 3) l9 12 1) l9 13 20) l9 14 0) l9 15 0) M' ∧ rc_U M' (l9 + 9) [(2, 0), (2, 2), (4, 0), (2, 1)])
    (Q5 := fun M' => pg_fr [l9 + 9, l9 + 9 + 1] (pg_si (pg_si (pg_si (pg_si (pg_si (pg_si (pg_si (pg_sa M (l9 + 6) (fun j => if j < 6 then 0 else M.1 (l9 + 6) j)) l9 10 0) l9 11 0) (l9 + 8) (0 : Int32).toNatClampNeg 3) l9 12 1) l9 13 20) l9 14 0) l9 15 0) M' ∧ rc_U M' (l9 + 9) [(2, 0), (2, 2), (4, 0), (2, 1), (5, 0)])
    (Q6 := fun M' => ∃ Mq, (pg_fr [l9 + 9, l9 + 9 + 1] (pg_si (pg_si (pg_si (pg_si (pg_si (pg_si (pg_si (pg_sa M (l9 + 6) (fun j => if j < 6 then 0 else M.1 (l9 + 6) j)) l9 10 0) l9 11 0) (l9 + 8) (0 : Int32).toNatClampNeg 3) l9 12 1) l9 13 20) l9 14 0) l9 15 0) Mq ∧ rc_U Mq (l9 + 9) [(2, 0), (2, 2), (4, 0), (2, 1), (5, 0)]) ∧ pg_fr [l9 + 12, l9 + 12 + 1] Mq M' ∧ rc_U M' (l9 + 12) [])
    (Q7 := fun M' => ∃ Mq, (pg_fr [l9 + 9, l9 + 9 + 1] (pg_si (pg_si (pg_si (pg_si (pg_si (pg_si (pg_si (pg_sa M (l9 + 6) (fun j => if j < 6 then 0 else M.1 (l9 + 6) j)) l9 10 0) l9 11 0) (l9 + 8) (0 : Int32).toNatClampNeg 3) l9 12 1) l9 13 20) l9 14 0) l9 15 0) Mq ∧ rc_U Mq (l9 + 9) [(2, 0), (2, 2), (4, 0), (2, 1), (5, 0)]) ∧ pg_fr [l9 + 12, l9 + 12 + 1] Mq M' ∧ rc_U M' (l9 + 12) [(2, 0)])
    h5 ?_ ?_ ?_ ?_ ?_ ?_ ?_ ?_ ?_)
  · intro Nq1 eq1; rw [eq1]; exact cl _ _ h8
  · intro Nq1 eq1 Mq1 g9; exact ad (l9 + 9) [] (2, 0) (-1) _ Mq1 rfl (by decide) (by omega) h8 g9.1 g9.2
  · intro Nq1 eq1 _ _ Mq1 g9; exact ad (l9 + 9) [(2, 0)] (2, 2) (-3) _ Mq1 rfl (by simp) (by omega) h8 g9.1 g9.2
  · intro Nq1 eq1 _ _ _ _ Mq1 g9; exact ad (l9 + 9) [(2, 0), (2, 2)] (4, 0) (-9) _ Mq1 rfl (by simp) (by omega) h8 g9.1 g9.2
  · intro Nq1 eq1 _ _ _ _ _ _ Mq1 g9; exact ad (l9 + 9) [(2, 0), (2, 2), (4, 0)] (2, 1) (-2) _ Mq1 rfl (by simp) (by omega) h8 g9.1 g9.2
  · intro Nq1 eq1 _ _ _ _ _ _ _ _ Mq1 g9; exact ad (l9 + 9) [(2, 0), (2, 2), (4, 0), (2, 1)] (5, 0) (-10) _ Mq1 rfl (by simp) (by omega) h8 g9.1 g9.2
  · intro Nq1 eq1 _ _ _ _ _ _ _ _ _ _ Mq1 g9
    refine pg_Ev.imp ?_ (cl (l9 + 12) Mq1 h9)
    rintro q7 M9 ⟨y1, y2⟩
    exact ⟨y1, Mq1, g9, y2⟩
  · rintro Nq1 eq1 _ _ _ _ _ _ _ _ _ _ _ _ Mq1 ⟨Mq, g9, g8, g7⟩
    refine pg_Ev.imp ?_ (ad (l9 + 12) [] (2, 0) (-1) Mq Mq1 rfl (by decide) (by omega) h9 g8 g7)
    rintro q7 M9 ⟨y1, y2⟩
    exact ⟨y1, Mq, g9, y2⟩
  · rintro Nq1 eq1 _ _ _ _ _ _ _ _ _ _ _ _ _ _ Mq1 ⟨Mq, ⟨u1, u2⟩, u3, u4⟩
    clear eq1
    have fr : pg_fr [l9, l9 + 6, l9 + 8] M (pg_si (pg_si (pg_si (pg_si (pg_si (pg_si (pg_si (pg_sa M (l9 + 6) (fun j => if j < 6 then 0 else M.1 (l9 + 6) j)) l9 10 0) l9 11 0) (l9 + 8) (0 : Int32).toNatClampNeg 3) l9 12 1) l9 13 20) l9 14 0) l9 15 0) := (((((((pg_fr.sa (by simp)).trans (pg_fr.si (by simp))).trans (pg_fr.si (by simp))).trans (pg_fr.si (by simp))).trans (pg_fr.si (by simp))).trans (pg_fr.si (by simp))).trans (pg_fr.si (by simp))).trans (pg_fr.si (by simp))
    have ne : ∀ b9, b9 ≠ l9 + 9 → b9 ≠ l9 + 10 → b9 ≠ l9 + 12 → b9 ≠ l9 + 13 → Mq1.1 b9 = (pg_si (pg_si (pg_si (pg_si (pg_si (pg_si (pg_si (pg_sa M (l9 + 6) (fun j => if j < 6 then 0 else M.1 (l9 + 6) j)) l9 10 0) l9 11 0) (l9 + 8) (0 : Int32).toNatClampNeg 3) l9 12 1) l9 13 20) l9 14 0) l9 15 0).1 b9 := fun b9 z1 z2 z3 z4 => by
      rw [u3.1 b9 (by simp; omega), u1.1 b9 (by simp; omega)]
    have n0 := ne l9 (by omega) (by omega) (by omega) (by omega)
    have n6 := ne (l9 + 6) (by omega) (by omega) (by omega) (by omega)
    have n8 := ne (l9 + 8) (by omega) (by omega) (by omega) (by omega)
    refine ⟨rfl, ⟨?_, ?_, ?_, ?_, ?_, ?_, fun c9 hc => absurd hc (by show ¬ c9 < 0; omega), fun c9 hc => ?_, fun p9 hp => absurd hp (by show ¬ p9 < 0; omega), fun j9 hj => ?_, u2.fr (u3.1 _ (by simp)) (u3.1 _ (by simp)), u4⟩, ?_⟩
    · rw [n0]; simp [pg_si_at, pk_un, pg_si_ne, upd]; rfl
    · rw [n0]; simp [pg_si_at, pk_un, pg_si_ne, upd]; rfl
    · rw [n0]; simp [pg_si_at, pk_un, pg_si_ne, upd]; rfl
    · rw [n0]; simp [pg_si_at, pk_un, pg_si_ne, upd]; rfl
    · rw [n0]; simp [pg_si_at, pk_un, pg_si_ne, upd]; rfl
    · rw [n0]; simp [pg_si_at, pk_un, pg_si_ne, upd]; rfl
    · have e6 : sp_mk (fun e => decide (c9 < e) && decide (rd_X0.1 6 (6 * c9 + e) = 1)) 6 = 0 := by
        have : sp_mk (fun e => decide (c9 < e) && decide (rd_X0.1 6 (6 * c9 + e) = 1)) 6 = sp_mk (fun _ => false) 6 := sp_mk_cong (fun i9 _ => by simp [rd_X0])
        rw [this]; decide
      rw [e6, n6, pg_si_ne (by omega), pg_si_ne (by omega), pg_si_ne (by omega), pg_si_ne (by omega), pg_si_ne (by omega), pg_si_ne (by omega), pg_si_ne (by omega), pg_sa_at, if_pos hc]
      rfl
    · have hj : j9 < 1 := hj
      obtain rfl : j9 = 0 := by omega
      rw [n8, pg_si_ne (by omega), pg_si_ne (by omega), pg_si_ne (by omega), pg_si_ne (by omega), pg_si_at]
      show upd _ 0 3 0 = _
      rw [pk_us]; rfl
    · refine ((fr.mono (Z := [l9, l9 + 6, l9 + 8, l9 + 9, l9 + 10, l9 + 12, l9 + 13]) ?_).trans (u1.mono ?_)).trans (u3.mono ?_)
      all_goals (intro b9 hb; simp at hb ⊢; omega)
end PGR
