/-! LINES: the class reads a line -/
def rd_j (q9 : Nat) : Nat := if q9 < 4 then q9 + 4 else q9 + 5
theorem rd_law2 (E9 : sp_E) (q9 : Nat) (a9 b9 : List (Nat × Int32)) : rd_law (rd_law E9 q9 a9) q9 b9 = rd_law E9 q9 b9 := by
  funext i9
  unfold rd_law
  split <;> rfl
section PGR
variable {S : pg_S} {Λ : pg_L} {d k9 l9 : Nat} {M : pg_M} {tp : List Nat} {X9 : rd_X}
theorem rc_rX.law {M' : pg_M} {q9 : Nat} {cs : List (Nat × Int32)} (hl : 3 ≤ l9) (hq : q9 < 2) (hx : rc_rX M l9 X9) (g1 : rc_gf (l9 + 9 + 3 * q9) M M') (hU : rc_U M' (l9 + 9 + 3 * q9) cs) : rc_rX M' l9 (X9.1, rd_law X9.2.1 q9 cs, X9.2.2) := by
  obtain ⟨⟨a1, a2, a3, a4, a5, a6, a7, a8, a9, a10, a11, a12⟩, b1, b2⟩ := hx
  have ne : ∀ b9, b9 ≠ 1 → b9 ≠ l9 + 9 + 3 * q9 → b9 ≠ l9 + 9 + 3 * q9 + 1 → M'.1 b9 = M.1 b9 := fun b9 z1 z2 z3 => g1.1.1 b9 (by simp; omega)
  have nl := ne l9 (by omega) (by omega) (by omega)
  refine ⟨⟨by rw [nl]; exact a1, by rw [nl]; exact a2, by rw [nl]; exact a3, by rw [nl]; exact a4, by rw [nl]; exact a5, by rw [nl]; exact a6, fun c9 hc => ?_, fun c9 hc => ?_, fun p9 hp => ?_, fun j9 hj => ?_, ?_, ?_⟩, fun c9 hc => ?_, ?_⟩
  · rw [ne _ (by omega) (by omega) (by omega), ne _ (by omega) (by omega) (by omega), ne _ (by omega) (by omega) (by omega), ne _ (by omega) (by omega) (by omega)]
    exact a7 c9 hc
  · rw [ne _ (by omega) (by omega) (by omega)]; exact a8 c9 hc
  · rw [ne _ (by omega) (by omega) (by omega)]; exact a9 p9 hp
  · rw [ne _ (by omega) (by omega) (by omega)]; exact a10 j9 hj
  · show rc_U M' (l9 + 9) (if 0 = q9 then cs else X9.2.1 0)
    by_cases z9 : 0 = q9
    · rw [if_pos z9]; rw [← z9] at hU; exact hU
    · rw [if_neg z9]; exact a11.fr (ne _ (by omega) (by omega) (by omega)) (ne _ (by omega) (by omega) (by omega))
  · show rc_U M' (l9 + 12) (if 1 = q9 then cs else X9.2.1 1)
    by_cases z9 : 1 = q9
    · rw [if_pos z9]; rw [← z9] at hU; exact hU
    · rw [if_neg z9]; exact a12.fr (ne _ (by omega) (by omega) (by omega)) (ne _ (by omega) (by omega) (by omega))
  · rw [g1.1.2.1 (l9 + 1) (by simp; omega)]
    exact b1 c9 hc
  · rw [g1.2 8 (by decide) (by decide) (by decide) (by decide) (by decide) (by decide)]; exact b2
/-- a Rule is emptied -/
theorem rc_rclear {r9 : Nat} (h8 : pg_isX8 Λ r9) : pg_Ev S Λ YX8_clear d [.ref r9] M (fun q M' => q = none ∧ (rc_U M' r9 [] ∧ pg_fr [r9] M M')) := by
  refine oX8_clear (sX8_clear_0 h8 ⟨rfl, rc_U.mk9.mpr ⟨?_, by decide, fun j9 e9 hj => by simp at hj⟩, pg_fr.si (by simp)⟩)
  rw [pg_si_at, pk_us]; rfl
theorem rc_readOnce {q9 : Nat} (hq : q9 < 6) (kl : k9 + 1 ≤ tp.length) (hl : 3 ≤ l9) (hX : pg_isX7 Λ) (h5 : pg_isX5 Λ l9) (hk : tk_ok tp) (ho : rd_ok X9) (hR : rc_R M tp (.ok k9)) (hx : rc_rX M l9 X9) : pg_Ev S Λ YX7_readOnce (d + 34) [.ref 1, .ref l9, .int (nI (rd_j q9))] M (fun q M' => q = none ∧ rc_lp l9 tp M (rd_once tp k9 q9 X9) M') := by
  have o64 := ho.2.2.2
  have h1 := rd_om_lt _ o64
  have ib : ((((M.1 1 8) >>> ((nI (rd_j q9)) &&& 31)) &&& 1) = 0) ↔ X9.2.2.2.testBit q9 = false := by
    rw [hx.2.2, nb_bit (by omega) (by unfold rd_j; split <;> omega)]
    unfold rd_j
    rw [rd_om_bit _ o64 _ hq]
  by_cases ht : X9.2.2.2.testBit q9 = true
  · have nb : ¬ ((((M.1 1 8) >>> ((nI (rd_j q9)) &&& 31)) &&& 1) = 0) := by rw [ib, ht]; decide
    refine oX7_readOnce (sX7_readOnce_0 (Q0 := fun _ => True) (Q1 := fun _ _ => True) (Q2 := fun _ _ => True) (Q3 := fun _ _ => True) (Q4 := fun _ _ => True) (Q5 := fun _ => True) (Q6 := fun _ => True) (Q7 := fun _ => True) (Q8 := fun _ => True) (Q9 := fun _ => True) (Q10 := fun _ => True) (Q11 := fun M' => rc_R M' tp (.error (3 + 16 * tk_place tp k9)) ∧ rc_rf M M') hX h5 (fun c => absurd c nb) (fun c => absurd c nb) (fun c => absurd c nb) (fun c => absurd c nb) (fun c => absurd c nb) (fun c => absurd c nb) (fun c => absurd c nb) (fun c => absurd c nb) (fun c => absurd c nb) (fun c => absurd c nb) (fun c => absurd c nb) (fun c => absurd c nb) (fun c => absurd c nb) (fun c => absurd c nb) (fun c => absurd c nb) (fun c => absurd c nb) (fun c => absurd c nb) (fun c => absurd c nb) (fun _ => rc_rfail (n9 := 3) (by omega) (by omega) hX hk hR) ?_)
    rintro _ Mq1 ⟨g1, g2⟩
    refine ⟨rfl, g2.lf, ?_⟩
    unfold rd_once
    rw [if_pos ht]
    exact g1
  · rw [Bool.not_eq_true] at ht
    have yb := ib.mpr ht
    have eset : (M.1 1 8) ||| ((1 : Int32) <<< ((nI (rd_j q9)) &&& 31)) = nI (rd_om (X9.2.2.2 ||| 2 ^ q9)) := by
      rw [hx.2.2, nb_set (by unfold rd_j; split <;> omega)]
      unfold rd_j
      rw [rd_om_set _ o64 _ hq]
    have x0 : rc_rX (pg_si M 1 8 (nI (rd_om (X9.2.2.2 ||| 2 ^ q9)))) l9 (X9.1, X9.2.1, X9.2.2.1, X9.2.2.2 ||| 2 ^ q9) := by
      refine ⟨hx.1.fr (fun j9 _ _ _ => pg_si_ne (by omega)), hx.2.1, ?_⟩
      rw [pg_si_at, pk_us]
    have nx : pg_Ev S Λ YX7_next (d + 33) [.ref 1] (pg_si M 1 8 ((M.1 1 8) ||| ((1 : Int32) <<< ((nI (rd_j q9)) &&& 31)))) (fun r M' => r = none ∧ (rc_R M' tp (.ok (k9 + 1)) ∧ rc_rX M' l9 (X9.1, X9.2.1, X9.2.2.1, X9.2.2.2 ||| 2 ^ q9) ∧ rc_lf l9 M M')) := by
      rw [eset]
      refine pg_Ev.imp ?_ (rc_rnext (S := S) (d := d + 30) hX hk hR.s8)
      rintro q7 M9 ⟨y1, y2, y3⟩
      exact ⟨y1, y2, x0.rf y3 hl, rc_lf.s1.trans y3.lf⟩
    have ro : ∀ x9 : Except Nat (Nat × rd_X), rd_once tp k9 q9 X9 = x9 → (if X9.2.2.2.testBit q9 = true then rd_e tp 3 k9 else x9) = x9 := fun x9 _ => by rw [if_neg (by rw [ht]; decide)]
    have nu : ∀ (lo hi : Nat) Mq1, lo < 2 ^ 31 → hi < 2 ^ 31 → rc_R Mq1 tp (.ok (k9 + 1)) ∧ rc_rX Mq1 l9 (X9.1, X9.2.1, X9.2.2.1, X9.2.2.2 ||| 2 ^ q9) ∧ rc_lf l9 M Mq1 → pg_Ev S Λ YX7_readNumber (d + 33) [.ref 1, .int (nI lo), .int (nI hi)] Mq1 (fun r M' => ∃ v, r = some (.int v) ∧ (rc_lf l9 M M' ∧ match rd_num tp lo hi (k9 + 1) with
          | .ok n9 => v = nI n9 ∧ rc_R M' tp (.ok (k9 + 2)) ∧ rc_rX M' l9 (X9.1, X9.2.1, X9.2.2.1, X9.2.2.2 ||| 2 ^ q9)
          | .error e9 => rc_R M' tp (.error e9))) := by
      rintro lo hi Mq1 hlo hhi ⟨g1, g2, g3⟩
      refine pg_Ev.mono (by omega) (pg_Ev.imp ?_ (rc_readNumber (S := S) (d := d) hlo hhi hX hk g1))
      rintro q7 M9 ⟨v9, y1, y2, y3⟩
      refine ⟨v9, y1, g3.trans y2.lf, ?_⟩
      cases hn : rd_num tp lo hi (k9 + 1) with
      | ok n9 => rw [hn] at y3; exact ⟨y3.2, y3.1, g2.rf y2 hl⟩
      | error e9 => rw [hn] at y3; exact y3
    have rw9 : ∀ (r9 w9 most lo f9 : Nat) Mq1, (w9 = 7 ∧ r9 = l9 + 7 ∧ most = 8 ∨ w9 = 5 ∧ r9 = l9 + 8 ∧ most = 12) → most + 1 < f9 → lo < 2 ^ 31 → Λ r9 = some (.inr (.int, most, none)) → rc_R Mq1 tp (.ok (k9 + 1)) ∧ rc_rX Mq1 l9 (X9.1, X9.2.1, X9.2.2.1, X9.2.2.2 ||| 2 ^ q9) ∧ rc_lf l9 M Mq1 → pg_Ev S Λ YX7_readRow (d + 33) [.ref 1, .ref r9, .int (nI lo), .int 9] Mq1 (fun r M' => ∃ v, r = some (.int v) ∧ rc_rp l9 r9 w9 tp (X9.1, X9.2.1, X9.2.2.1, X9.2.2.2 ||| 2 ^ q9) M (rd_row tp w9 most lo f9 (k9 + 1) 0 X9.1) v M') := by
      rintro r9 w9 most lo f9 Mq1 hw hf hlo hA ⟨g1, g2, g3⟩
      refine pg_Ev.mono (by omega) (pg_Ev.imp ?_ (rc_readRow (S := S) (d := d) (X9 := (X9.1, X9.2.1, X9.2.2.1, X9.2.2.2 ||| 2 ^ q9)) hl hw hf hlo hX hA hk g1 g2))
      rintro q7 M9 ⟨v9, y1, y2, y3⟩
      exact ⟨v9, y1, g3.trans y2, y3⟩
    have cl : ∀ (u9 : Nat) Mq1, u9 < 2 → pg_isX8 Λ (l9 + 9 + 3 * u9) → rc_R Mq1 tp (.ok (k9 + 1)) ∧ rc_rX Mq1 l9 (X9.1, X9.2.1, X9.2.2.1, X9.2.2.2 ||| 2 ^ q9) ∧ rc_lf l9 M Mq1 → pg_Ev S Λ YX8_clear (d + 33) [.ref (l9 + 9 + 3 * u9)] Mq1 (fun r M' => r = none ∧ (rc_R M' tp (.ok (k9 + 1)) ∧ rc_rX M' l9 (X9.1, rd_law X9.2.1 u9 [], X9.2.2.1, X9.2.2.2 ||| 2 ^ q9) ∧ rc_lf l9 M M' ∧ rc_U M' (l9 + 9 + 3 * u9) [])) := by
      rintro u9 Mq1 hu h8 ⟨g1, g2, g3⟩
      refine pg_Ev.imp ?_ (rc_rclear (S := S) (d := d + 33) h8)
      rintro q7 M9 ⟨y1, y2, y3⟩
      have y4 : pg_fr [l9 + 9 + 3 * u9, l9 + 9 + 3 * u9 + 1] Mq1 M9 := y3.mono (fun b9 hb => by simp at hb ⊢; omega)
      exact ⟨y1, g1.ad (by omega) y4, rc_rX.law hl hu g2 (rc_gf.ad (by omega) y4) y2, g3.trans (pg_pf.of y3 (fun b9 hb => by simp at hb; unfold rc_lq; omega)), y2⟩
    have te : ∀ (u9 : Nat) Mq1, u9 < 2 → pg_isX8 Λ (l9 + 9 + 3 * u9) → rc_R Mq1 tp (.ok (k9 + 1)) ∧ rc_rX Mq1 l9 (X9.1, rd_law X9.2.1 u9 [], X9.2.2.1, X9.2.2.2 ||| 2 ^ q9) ∧ rc_lf l9 M Mq1 ∧ rc_U Mq1 (l9 + 9 + 3 * u9) [] → pg_Ev S Λ YX7_readTests (d + 33) [.ref 1, .ref (l9 + 9 + 3 * u9), .int 0] Mq1 (fun r M' => r = none ∧ rc_lp l9 tp M (rd_b (gr_law tp (k9 + 1)) (fun r9 => .ok (r9.1, (X9.1, rd_law X9.2.1 u9 r9.2, X9.2.2.1, X9.2.2.2 ||| 2 ^ q9)))) M') := by
      rintro u9 Mq1 hu h8 ⟨g1, g2, g3, g4⟩
      have gg := (rc_gr (S := S) (tp := tp) (show 3 ≤ l9 + 9 + 3 * u9 by omega) hX h8 hk (8 * tp.length + 8)).2.2.2.2.2.2.1
      refine pg_Ev.imp ?_ (gg (d + 33) 0 (k9 + 1) [] Mq1 _ (gr_law_eq kl) (by omega) (by omega) (by simp) kl g1 g4)
      rintro q7 M9 ⟨y1, y2, y3⟩
      refine ⟨y1, g3.trans (y2.lf (by omega) (by omega)), ?_⟩
      cases hg : gr_law tp (k9 + 1) with
      | error e9 => rw [hg] at y3; exact y3.1
      | ok p9 =>
        rw [hg] at y3
        have := rc_rX.law hl hu g2 y2 y3.2
        rw [rd_law2] at this
        exact ⟨y3.1, this⟩
    have hro : rd_once tp k9 q9 X9 = (if q9 = 0 then rd_b (rd_row tp 7 8 1 10 (k9 + 1) 0 X9.1) (fun r9 => .ok (r9.1, (sp_up r9.2.2 4 4 r9.2.1, X9.2.1, X9.2.2.1, X9.2.2.2 ||| 2 ^ q9)))
  else if q9 = 1 then rd_b (rd_row tp 5 12 0 14 (k9 + 1) 0 X9.1) (fun r9 => .ok (r9.1, (sp_up r9.2.2 4 3 r9.2.1, X9.2.1, X9.2.2.1, X9.2.2.2 ||| 2 ^ q9)))
  else if q9 = 2 then rd_b (rd_num tp 1 60 (k9 + 1)) (fun v9 => .ok (k9 + 2, (sp_up X9.1 4 1 v9, X9.2.1, X9.2.2.1, X9.2.2.2 ||| 2 ^ q9)))
  else if q9 = 3 then rd_b (rd_num tp 0 10 (k9 + 1)) (fun v9 => .ok (k9 + 2, (sp_up X9.1 4 2 v9, X9.2.1, X9.2.2.1, X9.2.2.2 ||| 2 ^ q9)))
  else rd_b (gr_law tp (k9 + 1)) (fun r9 => .ok (r9.1, (X9.1, rd_law X9.2.1 (q9 - 4) r9.2, X9.2.2.1, X9.2.2.2 ||| 2 ^ q9)))) := by
      unfold rd_once
      rw [if_neg (by rw [ht]; decide)]
    have nn : ¬ ¬ ((((M.1 1 8) >>> ((nI (rd_j q9)) &&& 31)) &&& 1) = 0) := fun c => c yb
    clear ib ro
    rcases (show q9 = 0 ∨ q9 = 1 ∨ q9 = 2 ∨ q9 = 3 ∨ q9 = 4 ∨ q9 = 5 by omega) with rfl | rfl | rfl | rfl | rfl | rfl
    · refine oX7_readOnce (sX7_readOnce_0 (Q0 := fun M' => rc_R M' tp (.ok (k9 + 1)) ∧ rc_rX M' l9 (X9.1, X9.2.1, X9.2.2.1, X9.2.2.2 ||| 2 ^ 0) ∧ rc_lf l9 M M') (Q1 := fun v M' => rc_rp l9 (l9 + 7) 7 tp (X9.1, X9.2.1, X9.2.2.1, X9.2.2.2 ||| 2 ^ 0) M (rd_row tp 7 8 1 10 (k9 + 1) 0 X9.1) v M') (Q2 := fun _ _ => True) (Q3 := fun _ _ => True) (Q4 := fun _ _ => True) (Q5 := fun _ => True) (Q6 := fun _ => True) (Q7 := fun _ => True) (Q8 := fun _ => True) (Q9 := fun _ => True) (Q10 := fun _ => True) (Q11 := fun _ => True) hX h5 (fun _ => nx) (fun _ Mq1 g9 _ => rw9 (l9 + 7) 7 8 1 10 Mq1 (Or.inl ⟨rfl, rfl, rfl⟩) (by omega) (by omega) h5.2.2.2.2.2.2.2.1 g9) ?_ (fun _ _ _ c => absurd rfl c) (fun _ _ _ c => absurd rfl c) (fun _ _ _ c => absurd rfl c) (fun _ _ _ c => absurd rfl c) (fun _ _ _ c => absurd rfl c) (fun _ _ _ c => absurd rfl c) (fun _ _ _ c => absurd rfl c) (fun _ _ _ c => absurd rfl c) (fun _ _ _ c => absurd rfl c) (fun _ _ _ c => absurd rfl c) (fun _ _ _ c => absurd rfl c) (fun _ _ _ c => absurd rfl c) (fun _ _ _ c => absurd rfl c) (fun _ _ _ c => absurd rfl c) (fun _ _ _ c => absurd rfl c) (fun c => absurd yb c) (fun c => absurd yb c))
      rintro _ Mq1 _ _ v9 Mq2 ⟨y1, y2⟩
      refine ⟨rfl, y1.trans (rc_lf.si (by omega) (by omega)), ?_⟩
      rw [hro, if_pos rfl]
      cases hr : rd_row tp 7 8 1 10 (k9 + 1) 0 X9.1 with
      | error e9 => rw [hr] at y2; exact y2.si hl
      | ok p9 =>
        rw [hr] at y2
        rw [y2.2.1]
        exact ⟨y2.1.si hl, rc_rX.num (f9 := 11) (i9 := 4) hl (by omega) (fun _ => y2.2.2.2) (fun c => absurd c (by decide)) y2.2.2.1⟩
    · refine oX7_readOnce (sX7_readOnce_0 (Q0 := fun M' => rc_R M' tp (.ok (k9 + 1)) ∧ rc_rX M' l9 (X9.1, X9.2.1, X9.2.2.1, X9.2.2.2 ||| 2 ^ 1) ∧ rc_lf l9 M M') (Q1 := fun _ _ => True) (Q2 := fun v M' => rc_rp l9 (l9 + 8) 5 tp (X9.1, X9.2.1, X9.2.2.1, X9.2.2.2 ||| 2 ^ 1) M (rd_row tp 5 12 0 14 (k9 + 1) 0 X9.1) v M') (Q3 := fun _ _ => True) (Q4 := fun _ _ => True) (Q5 := fun _ => True) (Q6 := fun _ => True) (Q7 := fun _ => True) (Q8 := fun _ => True) (Q9 := fun _ => True) (Q10 := fun _ => True) (Q11 := fun _ => True) hX h5 (fun _ => nx) (fun _ _ _ c => absurd c (by decide)) (fun _ _ _ c => absurd c (by decide)) (fun _ Mq1 g9 _ _ => rw9 (l9 + 8) 5 12 0 14 Mq1 (Or.inr ⟨rfl, rfl, rfl⟩) (by omega) (by omega) h5.2.2.2.2.2.2.2.2.1 g9) ?_ (fun _ _ _ _ c => absurd rfl c) (fun _ _ _ _ c => absurd rfl c) (fun _ _ _ _ c => absurd rfl c) (fun _ _ _ _ c => absurd rfl c) (fun _ _ _ _ c => absurd rfl c) (fun _ _ _ _ c => absurd rfl c) (fun _ _ _ _ c => absurd rfl c) (fun _ _ _ _ c => absurd rfl c) (fun _ _ _ _ c => absurd rfl c) (fun _ _ _ _ c => absurd rfl c) (fun _ _ _ _ c => absurd rfl c) (fun _ _ _ _ c => absurd rfl c) (fun _ _ _ _ c => absurd rfl c) (fun c => absurd yb c) (fun c => absurd yb c))
      rintro _ Mq1 _ _ _ v9 Mq2 ⟨y1, y2⟩
      refine ⟨rfl, y1.trans (rc_lf.si (by omega) (by omega)), ?_⟩
      rw [hro, if_neg (by decide), if_pos rfl]
      cases hr : rd_row tp 5 12 0 14 (k9 + 1) 0 X9.1 with
      | error e9 => rw [hr] at y2; exact y2.si hl
      | ok p9 =>
        rw [hr] at y2
        rw [y2.2.1]
        exact ⟨y2.1.si hl, rc_rX.num (f9 := 12) (i9 := 3) hl (by omega) (fun c => absurd c (by decide)) (fun _ => y2.2.2.2) y2.2.2.1⟩
    · refine oX7_readOnce (sX7_readOnce_0 (Q0 := fun M' => rc_R M' tp (.ok (k9 + 1)) ∧ rc_rX M' l9 (X9.1, X9.2.1, X9.2.2.1, X9.2.2.2 ||| 2 ^ 2) ∧ rc_lf l9 M M') (Q1 := fun _ _ => True) (Q2 := fun _ _ => True) (Q3 := fun v M' => rc_lf l9 M M' ∧ match rd_num tp 1 60 (k9 + 1) with
          | .ok n9 => v = nI n9 ∧ rc_R M' tp (.ok (k9 + 2)) ∧ rc_rX M' l9 (X9.1, X9.2.1, X9.2.2.1, X9.2.2.2 ||| 2 ^ 2)
          | .error e9 => rc_R M' tp (.error e9)) (Q4 := fun _ _ => True) (Q5 := fun _ => True) (Q6 := fun _ => True) (Q7 := fun _ => True) (Q8 := fun _ => True) (Q9 := fun _ => True) (Q10 := fun _ => True) (Q11 := fun _ => True) hX h5 (fun _ => nx) (fun _ _ _ c => absurd c (by decide)) (fun _ _ _ c => absurd c (by decide)) (fun _ _ _ _ c => absurd c (by decide)) (fun _ _ _ _ c => absurd c (by decide)) (fun _ Mq1 g9 _ _ _ => nu 1 60 Mq1 (by omega) (by omega) g9) ?_ (fun _ _ _ _ _ c => absurd rfl c) (fun _ _ _ _ _ c => absurd rfl c) (fun _ _ _ _ _ c => absurd rfl c) (fun _ _ _ _ _ c => absurd rfl c) (fun _ _ _ _ _ c => absurd rfl c) (fun _ _ _ _ _ c => absurd rfl c) (fun _ _ _ _ _ c => absurd rfl c) (fun _ _ _ _ _ c => absurd rfl c) (fun _ _ _ _ _ c => absurd rfl c) (fun _ _ _ _ _ c => absurd rfl c) (fun _ _ _ _ _ c => absurd rfl c) (fun c => absurd yb c) (fun c => absurd yb c))
      rintro _ Mq1 _ _ _ _ v9 Mq2 ⟨y1, y2⟩
      refine ⟨rfl, y1.trans (rc_lf.si (by omega) (by omega)), ?_⟩
      rw [hro, if_neg (by decide), if_neg (by decide), if_pos rfl]
      cases hr : rd_num tp 1 60 (k9 + 1) with
      | error e9 => rw [hr] at y2; exact y2.si hl
      | ok p9 =>
        rw [hr] at y2
        rw [y2.1]
        exact ⟨y2.2.1.si hl, rc_rX.num (f9 := 13) (i9 := 1) hl (by omega) (fun c => absurd c (by decide)) (fun c => absurd c (by decide)) y2.2.2⟩
    · refine oX7_readOnce (sX7_readOnce_0 (Q0 := fun M' => rc_R M' tp (.ok (k9 + 1)) ∧ rc_rX M' l9 (X9.1, X9.2.1, X9.2.2.1, X9.2.2.2 ||| 2 ^ 3) ∧ rc_lf l9 M M') (Q1 := fun _ _ => True) (Q2 := fun _ _ => True) (Q3 := fun _ _ => True) (Q4 := fun v M' => rc_lf l9 M M' ∧ match rd_num tp 0 10 (k9 + 1) with
          | .ok n9 => v = nI n9 ∧ rc_R M' tp (.ok (k9 + 2)) ∧ rc_rX M' l9 (X9.1, X9.2.1, X9.2.2.1, X9.2.2.2 ||| 2 ^ 3)
          | .error e9 => rc_R M' tp (.error e9)) (Q5 := fun _ => True) (Q6 := fun _ => True) (Q7 := fun _ => True) (Q8 := fun _ => True) (Q9 := fun _ => True) (Q10 := fun _ => True) (Q11 := fun _ => True) hX h5 (fun _ => nx) (fun _ _ _ c => absurd c (by decide)) (fun _ _ _ c => absurd c (by decide)) (fun _ _ _ _ c => absurd c (by decide)) (fun _ _ _ _ c => absurd c (by decide)) (fun _ _ _ _ _ c => absurd c (by decide)) (fun _ _ _ _ _ c => absurd c (by decide)) (fun _ Mq1 g9 _ _ _ _ => nu 0 10 Mq1 (by omega) (by omega) g9) ?_ (fun _ _ _ _ _ _ c => absurd rfl c) (fun _ _ _ _ _ _ c => absurd rfl c) (fun _ _ _ _ _ _ c => absurd rfl c) (fun _ _ _ _ _ _ c => absurd rfl c) (fun _ _ _ _ _ _ c => absurd rfl c) (fun _ _ _ _ _ _ c => absurd rfl c) (fun _ _ _ _ _ _ c => absurd rfl c) (fun _ _ _ _ _ _ c => absurd rfl c) (fun _ _ _ _ _ _ c => absurd rfl c) (fun c => absurd yb c) (fun c => absurd yb c))
      rintro _ Mq1 _ _ _ _ _ v9 Mq2 ⟨y1, y2⟩
      refine ⟨rfl, y1.trans (rc_lf.si (by omega) (by omega)), ?_⟩
      rw [hro, if_neg (by decide), if_neg (by decide), if_neg (by decide), if_pos rfl]
      cases hr : rd_num tp 0 10 (k9 + 1) with
      | error e9 => rw [hr] at y2; exact y2.si hl
      | ok p9 =>
        rw [hr] at y2
        rw [y2.1]
        exact ⟨y2.2.1.si hl, rc_rX.num (f9 := 14) (i9 := 2) hl (by omega) (fun c => absurd c (by decide)) (fun c => absurd c (by decide)) y2.2.2⟩
    · refine oX7_readOnce (sX7_readOnce_0 (Q0 := fun M' => rc_R M' tp (.ok (k9 + 1)) ∧ rc_rX M' l9 (X9.1, X9.2.1, X9.2.2.1, X9.2.2.2 ||| 2 ^ 4) ∧ rc_lf l9 M M') (Q1 := fun _ _ => True) (Q2 := fun _ _ => True) (Q3 := fun _ _ => True) (Q4 := fun _ _ => True) (Q5 := fun _ => True) (Q6 := fun _ => True) (Q7 := fun M' => rc_R M' tp (.ok (k9 + 1)) ∧ rc_rX M' l9 (X9.1, rd_law X9.2.1 0 [], X9.2.2.1, X9.2.2.2 ||| 2 ^ 4) ∧ rc_lf l9 M M' ∧ rc_U M' (l9 + 9 + 3 * 0) []) (Q8 := fun M' => rc_lp l9 tp M (rd_b (gr_law tp (k9 + 1)) (fun r9 => .ok (r9.1, (X9.1, rd_law X9.2.1 0 r9.2, X9.2.2.1, X9.2.2.2 ||| 2 ^ 4)))) M') (Q9 := fun _ => True) (Q10 := fun _ => True) (Q11 := fun _ => True) hX h5 (fun _ => nx) (fun _ _ _ c => absurd c (by decide)) (fun _ _ _ c => absurd c (by decide)) (fun _ _ _ _ c => absurd c (by decide)) (fun _ _ _ _ c => absurd c (by decide)) (fun _ _ _ _ _ c => absurd c (by decide)) (fun _ _ _ _ _ c => absurd c (by decide)) (fun _ _ _ _ _ _ c => absurd c (by decide)) (fun _ _ _ _ _ _ c => absurd c (by decide)) (fun _ _ _ _ _ _ _ c => absurd c (by decide)) (fun _ _ _ _ _ _ _ c => absurd c (by decide)) (fun _ _ _ _ _ _ _ c => absurd c (by decide)) (fun _ Mq1 g9 _ _ _ _ _ _ => cl 0 Mq1 (by omega) h5.r8 g9) (fun _ Mq1 _ _ _ _ _ _ _ Mq2 g9 => te 0 Mq2 (by omega) h5.r8 g9) ?_ (fun _ _ _ _ _ _ _ _ c => absurd rfl c) (fun _ _ _ _ _ _ _ _ c => absurd rfl c) (fun _ _ _ _ _ _ _ _ c => absurd rfl c) (fun c => absurd yb c) (fun c => absurd yb c))
      rintro _ Mq1 _ _ _ _ _ _ _ Mq2 _ Mq3 g9
      rw [hro, if_neg (by decide), if_neg (by decide), if_neg (by decide), if_neg (by decide)]
      exact ⟨rfl, g9⟩
    · refine oX7_readOnce (sX7_readOnce_0 (Q0 := fun M' => rc_R M' tp (.ok (k9 + 1)) ∧ rc_rX M' l9 (X9.1, X9.2.1, X9.2.2.1, X9.2.2.2 ||| 2 ^ 5) ∧ rc_lf l9 M M') (Q1 := fun _ _ => True) (Q2 := fun _ _ => True) (Q3 := fun _ _ => True) (Q4 := fun _ _ => True) (Q5 := fun _ => True) (Q6 := fun _ => True) (Q7 := fun _ => True) (Q8 := fun _ => True) (Q9 := fun M' => rc_R M' tp (.ok (k9 + 1)) ∧ rc_rX M' l9 (X9.1, rd_law X9.2.1 1 [], X9.2.2.1, X9.2.2.2 ||| 2 ^ 5) ∧ rc_lf l9 M M' ∧ rc_U M' (l9 + 9 + 3 * 1) []) (Q10 := fun M' => rc_lp l9 tp M (rd_b (gr_law tp (k9 + 1)) (fun r9 => .ok (r9.1, (X9.1, rd_law X9.2.1 1 r9.2, X9.2.2.1, X9.2.2.2 ||| 2 ^ 5)))) M') (Q11 := fun _ => True) hX h5 (fun _ => nx) (fun _ _ _ c => absurd c (by decide)) (fun _ _ _ c => absurd c (by decide)) (fun _ _ _ _ c => absurd c (by decide)) (fun _ _ _ _ c => absurd c (by decide)) (fun _ _ _ _ _ c => absurd c (by decide)) (fun _ _ _ _ _ c => absurd c (by decide)) (fun _ _ _ _ _ _ c => absurd c (by decide)) (fun _ _ _ _ _ _ c => absurd c (by decide)) (fun _ _ _ _ _ _ _ c => absurd c (by decide)) (fun _ _ _ _ _ _ _ c => absurd c (by decide)) (fun _ _ _ _ _ _ _ c => absurd c (by decide)) (fun _ _ _ _ _ _ _ _ c => absurd c (by decide)) (fun _ _ _ _ _ _ _ _ c => absurd c (by decide)) (fun _ _ _ _ _ _ _ _ c => absurd c (by decide)) (fun _ Mq1 g9 _ _ _ _ _ _ => cl 1 Mq1 (by omega) h5.r9 g9) (fun _ Mq1 _ _ _ _ _ _ _ Mq2 g9 => te 1 Mq2 (by omega) h5.r9 g9) ?_ (fun c => absurd yb c) (fun c => absurd yb c))
      rintro _ Mq1 _ _ _ _ _ _ _ Mq2 _ Mq3 g9
      rw [hro, if_neg (by decide), if_neg (by decide), if_neg (by decide), if_neg (by decide)]
      exact ⟨rfl, g9⟩
end PGR
