/-! LINES: the reference reads what is told once; the laws -/
section PGR
variable {S : pg_S} {Λ : pg_L} {d n9 k9 a9 : Nat} {M : pg_M} {tp : List Nat} {X9 : rd_X}
/-- what a statement's reading ends in -/
def rm_lq (n9 : Nat) (tp : List Nat) (M : pg_M) (x9 : Except Nat (Nat × rd_X)) (M' : pg_M) : Prop := rm_lf M M' ∧ match x9 with
  | .ok y9 => rm_R M' tp n9 (.ok y9.1) ∧ ∃ a8, a8 ≤ y9.1 ∧ rm_rX M' a8 y9.2
  | .error e9 => rm_R M' tp n9 (.error e9)
theorem rm_lp.q {x9 : Except Nat (Nat × rd_X)} {M' : pg_M} (g : rm_lp a9 n9 tp M x9 M') (ha : ∀ y9, x9 = .ok y9 → a9 ≤ y9.1) : rm_lq n9 tp M x9 M' := by
  refine ⟨g.1, ?_⟩
  have g2 := g.2
  cases x9 with
  | error e9 => exact g2
  | ok y9 => exact ⟨g2.1, a9, ha y9 rfl, g2.2⟩
/-- the code of a law is laid, and its end -/
theorem rm_rX.law {Mq1 Mq2 Mq3 : pg_M} {q9 : Nat} {cs : List (Nat × Int32)} (hq : q9 < 2) (hx : rm_rX M a9 X9) (e1 : Mq1 = pg_si M 213 (106 + q9) (nI a9)) (g1 : rm_gf a9 Mq1 Mq2) (hc : rm_cd Mq3 a9 (cs ++ [(0, 0)])) (g2 : rm_ef a9 Mq2 Mq3) : rm_rX Mq3 (a9 + cs.length + 1) (X9.1, rd_law X9.2.1 q9 cs, X9.2.2) := by
  obtain ⟨⟨a1, a2, a3, a4, a5, a6, a7, a8, a9', a10, a11, a12, a13, a14⟩, c1, c2⟩ := hx
  have s13 : Mq3.1 213 = upd (M.1 213) (106 + q9) (nI a9) := by rw [g2.1.1 213 (by decide), g1.1.1 213 (by decide), e1, pg_si_at]
  have ne : ∀ j9, j9 ≠ 106 + q9 → Mq3.1 213 j9 = M.1 213 j9 := fun j9 hj => by rw [s13, pk_un hj]
  have n07 : ∀ j9, j9 ≠ 7 → j9 ≠ 8 → j9 ≠ 13 → Mq3.1 207 j9 = M.1 207 j9 := fun j9 h1 h2 h3 => by rw [g2.2.1 j9 h3, g1.2.1 j9 h1 h2 h3, e1, pg_si_ne (by decide)]
  have n14 : ∀ j9, j9 < 1100 + a9 → Mq3.1 214 j9 = M.1 214 j9 ∧ Mq3.1 215 j9 = M.1 215 j9 := fun j9 hj => by
    rw [(g2.2.2 j9 hj).1, (g2.2.2 j9 hj).2, (g1.2.2 j9 hj).1, (g1.2.2 j9 hj).2, e1, pg_si_ne (by decide), pg_si_ne (by decide)]
    exact ⟨rfl, rfl⟩
  have here : rm_rE Mq3 (a9 + cs.length + 1) q9 cs := by
    refine Or.inr ⟨a9, by rw [s13, pk_us], by omega, ?_, fun j9 e9 hj => ?_⟩
    · have := (hc.2 cs.length (0, 0) (by rw [List.getElem?_append_right (Nat.le_refl _), Nat.sub_self]; rfl)).1
      rw [show 1100 + (a9 + cs.length) = 1100 + a9 + cs.length by omega]; exact this
    · have hl := (List.getElem?_eq_some_iff.mp hj).1
      have := hc.2 j9 e9 (by rw [List.getElem?_append_left hl]; exact hj)
      rw [show 1100 + (a9 + j9) = 1100 + a9 + j9 by omega]; exact this
  have other : ∀ p9, p9 < 2 → p9 ≠ q9 → rm_rE M a9 p9 (X9.2.1 p9) → rm_rE Mq3 (a9 + cs.length + 1) p9 (X9.2.1 p9) := fun p9 hp hpq he => by
    rcases he with ⟨h1, h2⟩ | ⟨fr, h1, h2, h3, h4⟩
    · exact Or.inl ⟨by rw [ne _ (by omega)]; exact h1, h2⟩
    · refine Or.inr ⟨fr, by rw [ne _ (by omega)]; exact h1, by omega, by rw [(n14 _ (by omega)).1]; exact h3, fun j9 e9 hj => ?_⟩
      have hl := (List.getElem?_eq_some_iff.mp hj).1
      rw [(n14 _ (by omega)).1, (n14 _ (by omega)).2]
      exact h4 j9 e9 hj
  have both : ∀ p9, p9 < 2 → rm_rE M a9 p9 (X9.2.1 p9) → rm_rE Mq3 (a9 + cs.length + 1) p9 (rd_law X9.2.1 q9 cs p9) := fun p9 hp he => by
    unfold rd_law
    by_cases z9 : p9 = q9
    · rw [if_pos z9, z9]; exact here
    · rw [if_neg z9]; exact other p9 hp z9 he
  refine ⟨⟨by rw [ne _ (by omega)]; exact a1, by rw [ne _ (by omega)]; exact a2, by rw [ne _ (by omega)]; exact a3, by rw [ne _ (by omega)]; exact a4, by rw [ne _ (by omega)]; exact a5, by rw [ne _ (by omega)]; exact a6, fun c9 i9 hc hi => ?_, fun x9 y9 hx hy => ?_, fun p9 hp => ?_, fun j9 hj => ?_, both 0 (by omega) a11, both 1 (by omega) a12, ?_, by rw [n07 18 (by decide) (by decide) (by decide)]; exact a14⟩, ?_⟩
  · rw [ne _ (by omega)]; exact a7 c9 i9 hc hi
  · rw [ne _ (by omega)]; exact a8 x9 y9 hx hy
  · rw [ne _ (by omega)]; exact a9' p9 hp
  · rw [ne _ (by omega)]; exact a10 j9 hj
  · rw [hc.1]; simp [Nat.add_assoc]
  · refine ⟨by rw [n07 17 (by decide) (by decide) (by decide)]; exact c1, fun c9 hc => ?_⟩
    rw [g2.1.2.1 217 (by decide), g1.1.2.1 217 (by decide), e1]
    exact c2 c9 hc
theorem rm_once62 {q9 : Nat} (hq : q9 < 6) (hak : a9 ≤ k9) (kl : k9 + 1 ≤ tp.length) (hX : pg_isX11 Λ) (hk : tk_ok tp) (ho : rd_ok X9) (hw0 : (tk_tok tp k9).1 ≠ 0) (hR : rm_R M tp n9 (.ok k9)) (hx : rm_rX M a9 X9) (ht : X9.2.2.2.testBit q9 = false) : pg_At S Λ YX11_readOnce (d + 34) 62 [(0, .ref 207), (1, .int (nI q9))] [] M (fun q M' => q = none ∧ rm_lq n9 tp M (rd_once tp k9 q9 X9) M') := by
  have o64 := ho.2.2.2
  have h6 := ho.1.1
  have h8 := ho.1.2.2.2.2.2.1
  have hlen := hk.1
  have n1000 := hR.1
  have eset : (M.1 207 18) ||| ((1 : Int32) <<< ((nI q9) &&& 31)) = nI (X9.2.2.2 ||| 2 ^ q9) := by
    rw [hx.1.2.2.2.2.2.2.2.2.2.2.2.2.2, nb_set (by omega)]
  have r1 : rm_R (pg_si M 207 18 (nI (X9.2.2.2 ||| 2 ^ q9))) tp n9 (.ok k9) := hR.s07 (by decide) (by decide)
  obtain ⟨r2, f2⟩ := r1.adv hw0
  have x1 : rm_rX (pg_si M 207 18 (nI (X9.2.2.2 ||| 2 ^ q9))) a9 (X9.1, X9.2.1, X9.2.2.1, X9.2.2.2 ||| 2 ^ q9) := by
    obtain ⟨⟨a1, a2, a3, a4, a5, a6, a7, a8, a9', a10, a11, a12, a13, a14⟩, c1, c2⟩ := hx
    refine ⟨?_, ⟨by rw [pg_si_at, pk_un (by decide)]; exact c1, c2⟩⟩
    unfold rm_rZ rm_rE
    rw [pg_si_ne (show (213 : Nat) ≠ 207 by decide), pg_si_ne (show (214 : Nat) ≠ 207 by decide), pg_si_ne (show (215 : Nat) ≠ 207 by decide)]
    exact ⟨a1, a2, a3, a4, a5, a6, a7, a8, a9', a10, a11, a12, by rw [pg_si_at, pk_un (by decide)]; exact a13, by rw [pg_si_at, pk_us]⟩
  have x2 := x1.rf f2
  have l2 : rm_lf M (pg_si (pg_si M 207 18 (nI (X9.2.2.2 ||| 2 ^ q9))) 207 7 (((pg_si M 207 18 (nI (X9.2.2.2 ||| 2 ^ q9))).1 207 7) + 1)) := (rm_lf.s07 (by omega)).trans f2.lf
  have hro : rd_once tp k9 q9 X9 = (if q9 = 0 then rd_b (rd_row tp 7 8 1 10 (k9 + 1) 0 X9.1) (fun r9 => .ok (r9.1, (sp_up r9.2.2 4 4 r9.2.1, X9.2.1, X9.2.2.1, X9.2.2.2 ||| 2 ^ q9)))
  else if q9 = 1 then rd_b (rd_row tp 5 12 0 14 (k9 + 1) 0 X9.1) (fun r9 => .ok (r9.1, (sp_up r9.2.2 4 3 r9.2.1, X9.2.1, X9.2.2.1, X9.2.2.2 ||| 2 ^ q9)))
  else if q9 = 2 then rd_b (rd_num tp 1 60 (k9 + 1)) (fun v9 => .ok (k9 + 2, (sp_up X9.1 4 1 v9, X9.2.1, X9.2.2.1, X9.2.2.2 ||| 2 ^ q9)))
  else if q9 = 3 then rd_b (rd_num tp 0 10 (k9 + 1)) (fun v9 => .ok (k9 + 2, (sp_up X9.1 4 2 v9, X9.2.1, X9.2.2.1, X9.2.2.2 ||| 2 ^ q9)))
  else rd_b (gr_law tp (k9 + 1)) (fun r9 => .ok (r9.1, (X9.1, rd_law X9.2.1 (q9 - 4) r9.2, X9.2.2.1, X9.2.2.2 ||| 2 ^ q9)))) := by
    unfold rd_once
    rw [if_neg (by rw [ht]; decide)]
  have eN : ∀ Nq1 : pg_M, Nq1 = pg_si (pg_si M 207 18 ((M.1 207 18) ||| ((1 : Int32) <<< ((nI q9) &&& 31)))) 207 7 (((pg_si M 207 18 ((M.1 207 18) ||| ((1 : Int32) <<< ((nI q9) &&& 31)))).1 207 7) + 1) → Nq1 = pg_si (pg_si M 207 18 (nI (X9.2.2.2 ||| 2 ^ q9))) 207 7 (((pg_si M 207 18 (nI (X9.2.2.2 ||| 2 ^ q9))).1 207 7) + 1) := fun Nq1 e9 => by rw [eset] at e9; exact e9
  have rw9 : ∀ (b9 w9 most lo f9 : Nat) Nq1, Nq1 = pg_si (pg_si M 207 18 (nI (X9.2.2.2 ||| 2 ^ q9))) 207 7 (((pg_si M 207 18 (nI (X9.2.2.2 ||| 2 ^ q9))).1 207 7) + 1) → (w9 = 7 ∧ b9 = 168 ∧ most = 8 ∨ w9 = 5 ∧ b9 = 176 ∧ most = 12) → most + 1 < f9 → lo < 2 ^ 31 → pg_Ev S Λ YX11_readRow (d + 33) [.ref 207, .int (nI (b9 - 100)), .int (nI most), .int (nI lo)] Nq1 (fun r M' => ∃ v, r = some (.int v) ∧ rm_rp a9 n9 b9 w9 tp (X9.1, X9.2.1, X9.2.2.1, X9.2.2.2 ||| 2 ^ q9) M (rd_row tp w9 most lo f9 (k9 + 1) 0 X9.1) v M') := by
    rintro b9 w9 most lo f9 Nq1 e9 hw hf hlo
    rw [e9]
    refine pg_Ev.mono (by omega) (pg_Ev.imp ?_ (rm_readRow (S := S) (d := d) (X9 := (X9.1, X9.2.1, X9.2.2.1, X9.2.2.2 ||| 2 ^ q9)) h6 h8 hw hf hlo hX hk r2 x2))
    rintro q7 M9 ⟨v9, y1, y2, y3⟩
    exact ⟨v9, y1, l2.trans y2, y3⟩
  have nu : ∀ (lo hi : Nat) Nq1, Nq1 = pg_si (pg_si M 207 18 (nI (X9.2.2.2 ||| 2 ^ q9))) 207 7 (((pg_si M 207 18 (nI (X9.2.2.2 ||| 2 ^ q9))).1 207 7) + 1) → lo < 2 ^ 31 → hi < 2 ^ 31 → pg_Ev S Λ YX11_takeNumber (d + 33) [.ref 207, .int (nI lo), .int (nI hi)] Nq1 (fun r M' => ∃ v, r = some (.int v) ∧ (rm_lf M M' ∧ match rd_num tp lo hi (k9 + 1) with
        | .ok m9 => v = nI m9 ∧ rm_R M' tp n9 (.ok (k9 + 2)) ∧ rm_rX M' a9 (X9.1, X9.2.1, X9.2.2.1, X9.2.2.2 ||| 2 ^ q9)
        | .error e9 => rm_R M' tp n9 (.error e9))) := by
    rintro lo hi Nq1 e9 hlo hhi
    rw [e9]
    refine pg_Ev.mono (by omega) (pg_Ev.imp ?_ (rm_takeNumber (S := S) (d := d) hlo hhi hX hk r2))
    rintro q7 M9 ⟨v9, y1, y2, y3⟩
    refine ⟨v9, y1, l2.trans y2.lf, ?_⟩
    cases hn : rd_num tp lo hi (k9 + 1) with
    | ok m9 => rw [hn] at y3; exact ⟨y3.2, y3.1, x2.rf y2⟩
    | error e9 => rw [hn] at y3; exact y3
  have allE : ∀ (u9 : Nat) Nq1, u9 < 2 → Nq1 = pg_si (pg_si M 207 18 (nI (X9.2.2.2 ||| 2 ^ q9))) 207 7 (((pg_si M 207 18 (nI (X9.2.2.2 ||| 2 ^ q9))).1 207 7) + 1) → pg_Ev S Λ YX11_all (d + 33) [.ref 207, .int 0] (pg_si Nq1 213 (106 + u9) (nI a9)) (fun r M' => r = none ∧ rm_gp a9 n9 tp (k9 + 1) 0 (pg_si Nq1 213 (106 + u9) (nI a9)) (gr_law tp (k9 + 1)) M') := by
    rintro u9 Nq1 hu e9
    rw [e9]
    have gg := (rm_gr (S := S) (Λ := Λ) (tp := tp) (a9 := a9) (n9 := n9) hX hk n1000 (8 * tp.length + 8)).2.2.2.2.2.2.1
    refine gg (d + 33) 0 (k9 + 1) [] _ _ (gr_law_eq kl) (by omega) (by omega) (by simp; omega) kl r2.s13 ⟨?_, fun j9 e9 hj => by simp at hj⟩
    rw [pg_si_ne (by decide)]
    exact x2.1.2.2.2.2.2.2.2.2.2.2.2.2.1
  have emE : ∀ (u9 : Nat) Nq1 Mq1, u9 < 2 → Nq1 = pg_si (pg_si M 207 18 (nI (X9.2.2.2 ||| 2 ^ q9))) 207 7 (((pg_si M 207 18 (nI (X9.2.2.2 ||| 2 ^ q9))).1 207 7) + 1) → rm_gp a9 n9 tp (k9 + 1) 0 (pg_si Nq1 213 (106 + u9) (nI a9)) (gr_law tp (k9 + 1)) Mq1 → pg_Ev S Λ YX11_emit (d + 33) [.ref 207, .int 0, .int 0] Mq1 (fun r M' => r = none ∧ rm_lq n9 tp M (rd_b (gr_law tp (k9 + 1)) (fun r9 => .ok (r9.1, (X9.1, rd_law X9.2.1 u9 r9.2, X9.2.2.1, X9.2.2.2 ||| 2 ^ q9)))) M') := by
    rintro u9 Nq1 Mq1 hu e9 ⟨g1, g2⟩
    have l3 : rm_lf M (pg_si Nq1 213 (106 + u9) (nI a9)) := by rw [e9]; exact l2.trans (rm_lf.s13 (by omega))
    have g3 := gr_law_eq kl
    cases hg : gr_law tp (k9 + 1) with
    | error f9 =>
      rw [hg] at g2
      obtain ⟨g4, c9, l9, h1, h2, h3, h4⟩ := g2
      refine pg_Ev.imp ?_ (rm_emit0 (S := S) (d := d + 33) (a9 := a9) (o9 := 0) (v9 := 0) hX h1 (by omega) (by omega))
      rintro q7 M9 ⟨y1, y2, y3⟩
      exact ⟨y1, (l3.trans g1.lf).trans y3.gf.lf, g4.ef y3⟩
    | ok p9 =>
      obtain ⟨k1, c1⟩ := p9
      rw [hg] at g2 g3
      obtain ⟨b1, b2, b3⟩ := gr_len _ _ _ _ _ _ _ g3 kl
      have b3 : c1.length + (k9 + 1) ≤ 0 + k1 := b3
      refine pg_Ev.imp ?_ (rm_emit (S := S) (d := d + 33) (o9 := 0) (v9 := 0) hX g2.2 (by show a9 + c1.length < 1100; omega))
      rintro q7 M9 ⟨y1, y2, y3⟩
      refine ⟨y1, (l3.trans g1.lf).trans y3.gf.lf, g2.1.ef y3, a9 + c1.length + 1, by show a9 + c1.length + 1 ≤ k1; omega, ?_⟩
      rw [e9] at g1
      exact rm_rX.law hu x2 rfl g1 y2 y3
  have nn : ¬ ¬ (M.1 207 8 ≤ 0) := fun c => c hR.f0
  rcases (show q9 = 0 ∨ q9 = 1 ∨ q9 = 2 ∨ q9 = 3 ∨ q9 = 4 ∨ q9 = 5 by omega) with rfl | rfl | rfl | rfl | rfl | rfl
  · refine sX11_readOnce_62 (Q0 := fun _ => True) (Q1 := fun _ => True) (Q2 := fun _ _ => True) (Q3 := fun _ _ => True) (Q4 := fun _ _ => True) (Q5 := fun v M' => rm_rp a9 n9 168 7 tp (X9.1, X9.2.1, X9.2.2.1, X9.2.2.2 ||| 2 ^ 0) M (rd_row tp 7 8 1 10 (k9 + 1) 0 X9.1) v M') hX (fun _ _ _ c => absurd rfl c) (fun _ _ _ c => absurd rfl c) (fun _ _ _ c => absurd rfl c) (fun _ _ _ c => absurd rfl c) (fun _ _ _ c => absurd rfl c) (fun _ _ _ c => absurd rfl c) (fun _ _ _ c => absurd rfl c) (fun _ _ _ c => absurd rfl c) (fun _ _ _ c => absurd rfl c) (fun _ _ _ c => absurd rfl c) (fun _ Nq1 eq1 _ => rw9 168 7 8 1 10 Nq1 (eN Nq1 eq1) (Or.inl ⟨rfl, rfl, rfl⟩) (by omega) (by omega)) ?_ (fun c => absurd hR.f0 c)
    rintro _ Nq1 eq1 _ v9 Mq2 ⟨y1, y2⟩
    rw [show (101 : Int32).toNatClampNeg = 101 by decide]
    refine ⟨rfl, y1.trans (rm_lf.s13 (by omega)), ?_⟩
    rw [hro, if_pos rfl]
    cases hr : rd_row tp 7 8 1 10 (k9 + 1) 0 X9.1 with
    | error e9 => rw [hr] at y2; exact y2.s13
    | ok p9 =>
      rw [hr] at y2
      obtain ⟨z1, z2, z3, z4, z5, z6, z7, z8⟩ := rd_row_ok _ _ _ _ _ hr (by omega) (by omega) kl
      rw [y2.2.1]
      exact ⟨y2.1.s13, a9, by show a9 ≤ p9.1; omega, rm_rX.num (X9 := (p9.2.2, X9.2.1, X9.2.2.1, X9.2.2.2 ||| 2 ^ 0)) (f9 := 101) (i9 := 4) (by show p9.2.2 4 0 ≤ 6; rw [z7 4 0 (by decide)]; exact h6) (by omega) (fun _ => y2.2.2.2) (fun c => absurd c (by decide)) y2.2.2.1⟩
  · refine sX11_readOnce_62 (Q0 := fun _ => True) (Q1 := fun _ => True) (Q2 := fun _ _ => True) (Q3 := fun _ _ => True) (Q4 := fun v M' => rm_rp a9 n9 176 5 tp (X9.1, X9.2.1, X9.2.2.1, X9.2.2.2 ||| 2 ^ 1) M (rd_row tp 5 12 0 14 (k9 + 1) 0 X9.1) v M') (Q5 := fun _ _ => True) hX (fun _ _ _ _ c => absurd rfl c) (fun _ _ _ _ c => absurd rfl c) (fun _ _ _ _ c => absurd rfl c) (fun _ _ _ _ c => absurd rfl c) (fun _ _ _ _ c => absurd rfl c) (fun _ _ _ _ c => absurd rfl c) (fun _ _ _ _ c => absurd rfl c) (fun _ _ _ _ c => absurd rfl c) (fun _ Nq1 eq1 _ _ => rw9 176 5 12 0 14 Nq1 (eN Nq1 eq1) (Or.inr ⟨rfl, rfl, rfl⟩) (by omega) (by omega)) ?_ (fun _ _ _ c => absurd c (by decide)) (fun _ _ _ c => absurd c (by decide)) (fun c => absurd hR.f0 c)
    rintro _ Nq1 eq1 _ _ v9 Mq2 ⟨y1, y2⟩
    rw [show (102 : Int32).toNatClampNeg = 102 by decide]
    refine ⟨rfl, y1.trans (rm_lf.s13 (by omega)), ?_⟩
    rw [hro, if_neg (by decide), if_pos rfl]
    cases hr : rd_row tp 5 12 0 14 (k9 + 1) 0 X9.1 with
    | error e9 => rw [hr] at y2; exact y2.s13
    | ok p9 =>
      rw [hr] at y2
      obtain ⟨z1, z2, z3, z4, z5, z6, z7, z8⟩ := rd_row_ok _ _ _ _ _ hr (by omega) (by omega) kl
      rw [y2.2.1]
      exact ⟨y2.1.s13, a9, by show a9 ≤ p9.1; omega, rm_rX.num (X9 := (p9.2.2, X9.2.1, X9.2.2.1, X9.2.2.2 ||| 2 ^ 1)) (f9 := 102) (i9 := 3) (by show p9.2.2 4 0 ≤ 6; rw [z7 4 0 (by decide)]; exact h6) (by omega) (fun c => absurd c (by decide)) (fun _ => y2.2.2.2) y2.2.2.1⟩
  · refine sX11_readOnce_62 (Q0 := fun _ => True) (Q1 := fun _ => True) (Q2 := fun _ _ => True) (Q3 := fun v M' => rm_lf M M' ∧ match rd_num tp 1 60 (k9 + 1) with
        | .ok m9 => v = nI m9 ∧ rm_R M' tp n9 (.ok (k9 + 2)) ∧ rm_rX M' a9 (X9.1, X9.2.1, X9.2.2.1, X9.2.2.2 ||| 2 ^ 2)
        | .error e9 => rm_R M' tp n9 (.error e9)) (Q4 := fun _ _ => True) (Q5 := fun _ _ => True) hX (fun _ _ _ _ _ c => absurd rfl c) (fun _ _ _ _ _ c => absurd rfl c) (fun _ _ _ _ _ c => absurd rfl c) (fun _ _ _ _ _ c => absurd rfl c) (fun _ _ _ _ _ c => absurd rfl c) (fun _ _ _ _ _ c => absurd rfl c) (fun _ Nq1 eq1 _ _ _ => nu 1 60 Nq1 (eN Nq1 eq1) (by omega) (by omega)) ?_ (fun _ _ _ _ c => absurd c (by decide)) (fun _ _ _ _ c => absurd c (by decide)) (fun _ _ _ c => absurd c (by decide)) (fun _ _ _ c => absurd c (by decide)) (fun c => absurd hR.f0 c)
    rintro _ Nq1 eq1 _ _ _ v9 Mq2 ⟨y1, y2⟩
    rw [show (103 : Int32).toNatClampNeg = 103 by decide]
    refine ⟨rfl, y1.trans (rm_lf.s13 (by omega)), ?_⟩
    rw [hro, if_neg (by decide), if_neg (by decide), if_pos rfl]
    cases hr : rd_num tp 1 60 (k9 + 1) with
    | error e9 => rw [hr] at y2; exact y2.s13
    | ok p9 =>
      rw [hr] at y2
      rw [y2.1]
      exact ⟨y2.2.1.s13, a9, by show a9 ≤ k9 + 2; omega, rm_rX.num (X9 := (X9.1, X9.2.1, X9.2.2.1, X9.2.2.2 ||| 2 ^ 2)) (f9 := 103) (i9 := 1) h6 (by omega) (fun c => absurd c (by decide)) (fun c => absurd c (by decide)) y2.2.2⟩
  · refine sX11_readOnce_62 (Q0 := fun _ => True) (Q1 := fun _ => True) (Q2 := fun v M' => rm_lf M M' ∧ match rd_num tp 0 10 (k9 + 1) with
        | .ok m9 => v = nI m9 ∧ rm_R M' tp n9 (.ok (k9 + 2)) ∧ rm_rX M' a9 (X9.1, X9.2.1, X9.2.2.1, X9.2.2.2 ||| 2 ^ 3)
        | .error e9 => rm_R M' tp n9 (.error e9)) (Q3 := fun _ _ => True) (Q4 := fun _ _ => True) (Q5 := fun _ _ => True) hX (fun _ _ _ _ _ _ c => absurd rfl c) (fun _ _ _ _ _ _ c => absurd rfl c) (fun _ _ _ _ _ _ c => absurd rfl c) (fun _ _ _ _ _ _ c => absurd rfl c) (fun _ Nq1 eq1 _ _ _ _ => nu 0 10 Nq1 (eN Nq1 eq1) (by omega) (by omega)) ?_ (fun _ _ _ _ _ c => absurd c (by decide)) (fun _ _ _ _ _ c => absurd c (by decide)) (fun _ _ _ _ c => absurd c (by decide)) (fun _ _ _ _ c => absurd c (by decide)) (fun _ _ _ c => absurd c (by decide)) (fun _ _ _ c => absurd c (by decide)) (fun c => absurd hR.f0 c)
    rintro _ Nq1 eq1 _ _ _ _ v9 Mq2 ⟨y1, y2⟩
    rw [show (104 : Int32).toNatClampNeg = 104 by decide]
    refine ⟨rfl, y1.trans (rm_lf.s13 (by omega)), ?_⟩
    rw [hro, if_neg (by decide), if_neg (by decide), if_neg (by decide), if_pos rfl]
    cases hr : rd_num tp 0 10 (k9 + 1) with
    | error e9 => rw [hr] at y2; exact y2.s13
    | ok p9 =>
      rw [hr] at y2
      rw [y2.1]
      exact ⟨y2.2.1.s13, a9, by show a9 ≤ k9 + 2; omega, rm_rX.num (X9 := (X9.1, X9.2.1, X9.2.2.1, X9.2.2.2 ||| 2 ^ 3)) (f9 := 104) (i9 := 2) h6 (by omega) (fun c => absurd c (by decide)) (fun c => absurd c (by decide)) y2.2.2⟩
  · refine sX11_readOnce_62 (Q0 := fun M' => ∃ Nq1, Nq1 = pg_si (pg_si M 207 18 (nI (X9.2.2.2 ||| 2 ^ 4))) 207 7 (((pg_si M 207 18 (nI (X9.2.2.2 ||| 2 ^ 4))).1 207 7) + 1) ∧ rm_gp a9 n9 tp (k9 + 1) 0 (pg_si Nq1 213 (106 + 0) (nI a9)) (gr_law tp (k9 + 1)) M') (Q1 := fun M' => rm_lq n9 tp M (rd_b (gr_law tp (k9 + 1)) (fun r9 => .ok (r9.1, (X9.1, rd_law X9.2.1 0 r9.2, X9.2.2.1, X9.2.2.2 ||| 2 ^ 4)))) M') (Q2 := fun _ _ => True) (Q3 := fun _ _ => True) (Q4 := fun _ _ => True) (Q5 := fun _ _ => True) hX (fun _ Nq1 eq1 _ _ _ _ => by rw [show (106 : Int32) + nI 4 - 4 = nI 106 by decide]; exact vp_in_nI (by omega) (by decide)) ?_ (fun _ Nq1 eq1 _ _ _ _ Mq1 ⟨Nq2, e9, g9⟩ => emE 0 Nq2 Mq1 (by omega) e9 g9) (fun _ Nq1 eq1 _ _ _ _ Mq1 _ Mq2 g9 => ⟨rfl, by rw [hro, if_neg (by decide), if_neg (by decide), if_neg (by decide), if_neg (by decide)]; exact g9⟩) (fun _ _ _ _ _ _ c => absurd c (by decide)) (fun _ _ _ _ _ _ c => absurd c (by decide)) (fun _ _ _ _ _ c => absurd c (by decide)) (fun _ _ _ _ _ c => absurd c (by decide)) (fun _ _ _ _ c => absurd c (by decide)) (fun _ _ _ _ c => absurd c (by decide)) (fun _ _ _ c => absurd c (by decide)) (fun _ _ _ c => absurd c (by decide)) (fun c => absurd hR.f0 c)
    intro _ Nq1 eq1 _ _ _ _
    have e13 : Nq1.1 207 13 = nI a9 := by rw [eN Nq1 eq1]; exact x2.1.2.2.2.2.2.2.2.2.2.2.2.2.1
    rw [e13, show ((106 : Int32) + nI 4 - 4).toNatClampNeg = 106 + 0 by decide]
    refine pg_Ev.imp ?_ (allE 0 Nq1 (by omega) (eN Nq1 eq1))
    rintro q7 M9 ⟨y1, y2⟩
    exact ⟨y1, Nq1, eN Nq1 eq1, y2⟩
  · refine sX11_readOnce_62 (Q0 := fun M' => ∃ Nq1, Nq1 = pg_si (pg_si M 207 18 (nI (X9.2.2.2 ||| 2 ^ 5))) 207 7 (((pg_si M 207 18 (nI (X9.2.2.2 ||| 2 ^ 5))).1 207 7) + 1) ∧ rm_gp a9 n9 tp (k9 + 1) 0 (pg_si Nq1 213 (106 + 1) (nI a9)) (gr_law tp (k9 + 1)) M') (Q1 := fun M' => rm_lq n9 tp M (rd_b (gr_law tp (k9 + 1)) (fun r9 => .ok (r9.1, (X9.1, rd_law X9.2.1 1 r9.2, X9.2.2.1, X9.2.2.2 ||| 2 ^ 5)))) M') (Q2 := fun _ _ => True) (Q3 := fun _ _ => True) (Q4 := fun _ _ => True) (Q5 := fun _ _ => True) hX (fun _ Nq1 eq1 _ _ _ _ => by rw [show (106 : Int32) + nI 5 - 4 = nI 107 by decide]; exact vp_in_nI (by omega) (by decide)) ?_ (fun _ Nq1 eq1 _ _ _ _ Mq1 ⟨Nq2, e9, g9⟩ => emE 1 Nq2 Mq1 (by omega) e9 g9) (fun _ Nq1 eq1 _ _ _ _ Mq1 _ Mq2 g9 => ⟨rfl, by rw [hro, if_neg (by decide), if_neg (by decide), if_neg (by decide), if_neg (by decide)]; exact g9⟩) (fun _ _ _ _ _ _ c => absurd c (by decide)) (fun _ _ _ _ _ _ c => absurd c (by decide)) (fun _ _ _ _ _ c => absurd c (by decide)) (fun _ _ _ _ _ c => absurd c (by decide)) (fun _ _ _ _ c => absurd c (by decide)) (fun _ _ _ _ c => absurd c (by decide)) (fun _ _ _ c => absurd c (by decide)) (fun _ _ _ c => absurd c (by decide)) (fun c => absurd hR.f0 c)
    intro _ Nq1 eq1 _ _ _ _
    have e13 : Nq1.1 207 13 = nI a9 := by rw [eN Nq1 eq1]; exact x2.1.2.2.2.2.2.2.2.2.2.2.2.2.1
    rw [e13, show ((106 : Int32) + nI 5 - 4).toNatClampNeg = 106 + 1 by decide]
    refine pg_Ev.imp ?_ (allE 1 Nq1 (by omega) (eN Nq1 eq1))
    rintro q7 M9 ⟨y1, y2⟩
    exact ⟨y1, Nq1, eN Nq1 eq1, y2⟩
theorem rm_readOnce (hak : a9 ≤ k9) (hX : pg_isX11 Λ) (hk : tk_ok tp) (ho : rd_ok X9) (hw0 : (tk_tok tp k9).1 ≠ 0) (h0 : tk_wd (tk_tok tp k9) ≠ some 0) (h8 : tk_wd (tk_tok tp k9) ≠ some 8) (hR : rm_R M tp n9 (.ok k9)) (hx : rm_rX M a9 X9) : pg_Ev S Λ YX11_readOnce (d + 34) [.ref 207] M (fun q M' => q = none ∧ rm_lq n9 tp M (rd_stmt tp k9 X9) M') := by
  have o64 := ho.2.2.2
  have kl : k9 + 1 ≤ tp.length := tk_in hw0
  have w1 := rm_wrong (S := S) (Λ := Λ) (d := d + 33) (m9 := 1) (by omega) (by omega) hX hk hR
  have w3 := rm_wrong (S := S) (Λ := Λ) (d := d + 33) (m9 := 3) (by omega) (by omega) hX hk hR
  have h62 : ∀ m9 (v9 : Int32) Mq, rd_stmt tp k9 X9 = .error (m9 + 16 * tk_place tp k9) → rm_R Mq tp n9 (.error (m9 + 16 * tk_place tp k9)) → rm_rf M Mq → pg_At S Λ YX11_readOnce (d + 34) 62 [(0, .ref 207), (1, .int v9)] [] Mq (fun q M' => q = none ∧ rm_lq n9 tp M (rd_stmt tp k9 X9) M') := fun m9 v9 Mq he g1 g2 => by
    rw [he]
    exact sX11_readOnce_62 (Q0 := fun _ => True) (Q1 := fun _ => True) (Q2 := fun _ _ => True) (Q3 := fun _ _ => True) (Q4 := fun _ _ => True) (Q5 := fun _ _ => True) hX (fun c => absurd c g1.fle) (fun c => absurd c g1.fle) (fun c => absurd c g1.fle) (fun c => absurd c g1.fle) (fun c => absurd c g1.fle) (fun c => absurd c g1.fle) (fun c => absurd c g1.fle) (fun c => absurd c g1.fle) (fun c => absurd c g1.fle) (fun c => absurd c g1.fle) (fun c => absurd c g1.fle) (fun c => absurd c g1.fle) (fun _ => ⟨rfl, g2.lf, g1⟩)
  -- it is one of them
  have good : ∀ q9, q9 < 6 → rd_stmt tp k9 X9 = rd_once tp k9 q9 X9 → pg_At S Λ YX11_readOnce (d + 34) 32 [(0, .ref 207)] [.int (nI q9)] M (fun q M' => q = none ∧ rm_lq n9 tp M (rd_stmt tp k9 X9) M') := fun q9 hq he => by
    have po : (0 : Int32) ≤ nI q9 := by rw [← nI_0, nI_leI (by decide) (by omega)]; omega
    have ib : ((((M.1 207 18) >>> ((nI q9) &&& 31)) &&& 1) = 1) ↔ X9.2.2.2.testBit q9 = true := by
      rw [hx.1.2.2.2.2.2.2.2.2.2.2.2.2.2, nb_bit' (by omega) (by omega)]
    by_cases ht : X9.2.2.2.testBit q9 = true
    · have he3 : rd_stmt tp k9 X9 = .error (3 + 16 * tk_place tp k9) := by rw [he]; unfold rd_once; rw [if_pos ht]; rfl
      exact sX11_readOnce_32 (Q0 := fun M' => rm_R M' tp n9 (.error (3 + 16 * tk_place tp k9)) ∧ rm_rf M M' ∧ M'.1 207 7 = M.1 207 7) (Q1 := fun _ => True) hX (fun _ c => absurd (ib.mpr ht) c) (fun _ _ => w3) (fun _ _ Mq1 y9 => h62 3 _ Mq1 he3 y9.1 y9.2.1) (fun c => absurd po c) (fun c => absurd po c)
    · have nb : ¬ ((((M.1 207 18) >>> ((nI q9) &&& 31)) &&& 1) = 1) := fun c => ht (ib.mp c)
      rw [Bool.not_eq_true] at ht
      refine sX11_readOnce_32 (Q0 := fun _ => True) (Q1 := fun _ => True) hX (fun _ _ => ?_) (fun _ c => absurd c nb) (fun _ c => absurd c nb) (fun c => absurd po c) (fun c => absurd po c)
      rw [he]
      exact rm_once62 hq hak kl hX hk ho hw0 hR hx ht
  have bad : ∀ s0 : Int32, ¬ 0 ≤ s0 → rd_stmt tp k9 X9 = .error (1 + 16 * tk_place tp k9) → pg_At S Λ YX11_readOnce (d + 34) 32 [(0, .ref 207)] [.int s0] M (fun q M' => q = none ∧ rm_lq n9 tp M (rd_stmt tp k9 X9) M') := fun s0 q9 he =>
    sX11_readOnce_32 (Q0 := fun _ => True) (Q1 := fun M' => rm_R M' tp n9 (.error (1 + 16 * tk_place tp k9)) ∧ rm_rf M M' ∧ M'.1 207 7 = M.1 207 7) hX (fun c => absurd c q9) (fun c => absurd c q9) (fun c => absurd c q9) (fun _ => w1) (fun _ Mq1 y9 => h62 1 _ Mq1 he y9.1 y9.2.1)
  have i9 := rm_isWord (S := S) (Λ := Λ) (d := d + 33) (w9 := 9) (by omega) hX hk hR
  have i10 := rm_isWord (S := S) (Λ := Λ) (d := d + 33) (w9 := 10) (by omega) hX hk hR
  have wh := pg_Ev.mono (d' := d + 33) (by omega) (rm_wordHere (S := S) (Λ := Λ) (d := d) (a9 := 4) (m9 := 4) (by omega) hX hk hR)
  have hh9 : tk_here tp 4 4 (.ok k9) = (match tk_wd (tk_tok tp k9) with
    | none => (-1 : Int32)
    | some j9 => if 4 ≤ j9 ∧ j9 < 4 + 4 then nI (j9 - 4) else -1) := rfl
  have hst : ∀ j9, tk_wd (tk_tok tp k9) = some j9 → rd_stmt tp k9 X9 = (if j9 = 0 then rd_cloth tp k9 X9 else if j9 = 8 then rd_clash tp k9 X9 else if 4 ≤ j9 ∧ j9 ≤ 10 then rd_once tp k9 (if j9 < 8 then j9 - 4 else j9 - 5) X9 else rd_e tp 1 k9) := fun j9 hw => by unfold rd_stmt; rw [hw]
  refine oX11_readOnce (sX11_readOnce_0 (Q0 := fun v M' => v = b2i (tk_isW tp 9 (.ok k9)) ∧ M' = M) (Q1 := fun v M' => v = b2i (tk_isW tp 10 (.ok k9)) ∧ M' = M) (Q2 := fun v M' => v = tk_here tp 4 4 (.ok k9) ∧ M' = M) hX i9 (fun v9 Mq1 y9 _ => by rw [y9.2]; exact i10) (fun v9 Mq1 _ _ v8 Mq2 y9 _ => by rw [y9.2]; exact wh) ?_ ?_ ?_)
  · rintro v9 Mq1 ⟨e1, _⟩ q1 v8 Mq2 ⟨e2, _⟩ q2 v7 Mq3 ⟨e3, e4⟩
    rw [e1, b2i_0] at q1
    rw [e2, b2i_0] at q2
    have n9 : ¬ tk_wd (tk_tok tp k9) = some 9 := of_decide_eq_false q1
    have n10 : ¬ tk_wd (tk_tok tp k9) = some 10 := of_decide_eq_false q2
    rw [e3, e4]
    cases hw : tk_wd (tk_tok tp k9) with
    | none =>
      rw [hw] at hh9
      exact bad _ (by rw [hh9]; decide) (by unfold rd_stmt; rw [hw]; rfl)
    | some j9 =>
      rw [hw] at hh9 h0 h8 n9 n10
      have z0 : j9 ≠ 0 := fun c => h0 (by rw [c])
      have z8 : j9 ≠ 8 := fun c => h8 (by rw [c])
      have z9 : j9 ≠ 9 := fun c => n9 (by rw [c])
      have z10 : j9 ≠ 10 := fun c => n10 (by rw [c])
      have hs := hst j9 hw
      rw [if_neg z0, if_neg z8] at hs
      by_cases c4 : 4 ≤ j9 ∧ j9 < 8
      · have e5 : tk_here tp 4 4 (.ok k9) = nI (j9 - 4) := by
          rw [hh9]; show (if 4 ≤ j9 ∧ j9 < 4 + 4 then nI (j9 - 4) else -1) = _
          rw [if_pos (by omega)]
        rw [e5]
        rw [if_pos (by omega), if_pos c4.2] at hs
        exact good (j9 - 4) (by omega) hs
      · refine bad _ ?_ ?_
        · rw [hh9]; show ¬ 0 ≤ (if 4 ≤ j9 ∧ j9 < 4 + 4 then nI (j9 - 4) else (-1 : Int32))
          rw [if_neg (by omega)]; decide
        · rw [hs, if_neg (by omega)]; rfl
  · rintro v9 Mq1 _ _ v8 Mq2 ⟨e2, e4⟩ q2
    rw [e2, b2i_0, Bool.not_eq_false] at q2
    have y10 : tk_wd (tk_tok tp k9) = some 10 := of_decide_eq_true q2
    rw [e4]
    exact good 5 (by omega) (hst 10 y10)
  · rintro v9 Mq1 ⟨e2, e4⟩ q2
    rw [e2, b2i_0, Bool.not_eq_false] at q2
    have y9 : tk_wd (tk_tok tp k9) = some 9 := of_decide_eq_true q2
    rw [e4]
    exact good 4 (by omega) (hst 9 y9)
end PGR
