/-! LINES: the class reads what is told once -/
theorem rd_om_bit : ∀ o9, o9 < 64 → ∀ q9, q9 < 6 → (rd_om o9).testBit (if q9 < 4 then q9 + 4 else q9 + 5) = o9.testBit q9 := fun o9 hO => co_dec (N := 64) (P := fun o9 => ∀ q9, q9 < 6 → (rd_om o9).testBit (if q9 < 4 then q9 + 4 else q9 + 5) = o9.testBit q9) (by decide +kernel) hO
theorem rd_om_set : ∀ o9, o9 < 64 → ∀ q9, q9 < 6 → rd_om o9 ||| 2 ^ (if q9 < 4 then q9 + 4 else q9 + 5) = rd_om (o9 ||| 2 ^ q9) := fun o9 hO => co_dec (N := 64) (P := fun o9 => ∀ q9, q9 < 6 → rd_om o9 ||| 2 ^ (if q9 < 4 then q9 + 4 else q9 + 5) = rd_om (o9 ||| 2 ^ q9)) (by decide +kernel) hO
theorem rd_om_lt : ∀ o9, o9 < 64 → rd_om o9 < 2048 := fun o9 hO => co_dec (N := 64) (P := fun o9 => rd_om o9 < 2048) (by decide +kernel) hO
theorem rc_R.s8 {M : pg_M} {tp : List Nat} {z9 : tk_st} {v9 : Int32} (hR : rc_R M tp z9) : rc_R (pg_si M 1 8 v9) tp z9 := by
  have n9 : ∀ j9, j9 ≠ 8 → (pg_si M 1 8 v9).1 1 j9 = M.1 1 j9 := fun j9 hj => by rw [pg_si_at, pk_un hj]
  unfold rc_R rc_T rc_tok at hR ⊢
  rw [n9 1 (by decide), n9 9 (by decide), pg_si_ne (show (2 : Nat) ≠ 1 by decide)]
  cases z9 with
  | error e9 => exact hR
  | ok k9 =>
    show _ ∧ _ ∧ (_ ∧ _ ∧ _) ∧ _ ∧ _
    rw [n9 2 (by decide), n9 3 (by decide), n9 4 (by decide), n9 5 (by decide), n9 7 (by decide)]
    exact hR
section PGR
variable {S : pg_S} {Λ : pg_L} {d k9 l9 : Nat} {M : pg_M} {tp : List Nat} {X9 : rd_X}
/-- the class's row is written at a place -/
theorem rc_rX.row {w9 r9 n9 v9 : Nat} (hl : 3 ≤ l9) (hw : w9 = 7 ∧ r9 = l9 + 7 ∨ w9 = 5 ∧ r9 = l9 + 8) (hx : rc_rX M l9 X9) : rc_rX (pg_si M r9 n9 (nI v9)) l9 (sp_up X9.1 w9 n9 v9, X9.2) := by
  obtain ⟨⟨a1, a2, a3, a4, a5, a6, a7, a8, a9, a10, a11, a12⟩, b1, b2⟩ := hx
  have ne : ∀ b9, b9 ≠ r9 → (pg_si M r9 n9 (nI v9)).1 b9 = M.1 b9 := fun b9 hb => pg_si_ne hb
  have lo : ∀ x9 y9, x9 ≠ w9 → (sp_up X9.1 w9 n9 v9) x9 y9 = X9.1 x9 y9 := fun x9 y9 z9 => sp_up_ne (fun c => z9 c.1)
  have l40 : (sp_up X9.1 w9 n9 v9) 4 0 = X9.1 4 0 := lo 4 0 (by omega)
  refine ⟨⟨?_, ?_, ?_, ?_, ?_, ?_, fun c9 hc => ?_, fun c9 hc => ?_, fun p9 hp => ?_, fun j9 hj => ?_, a11.fr (ne _ (by omega)) (ne _ (by omega)), a12.fr (ne _ (by omega)) (ne _ (by omega))⟩, fun c9 hc => ?_, ?_⟩
  · rw [ne _ (by omega)]; show _ = nI ((sp_up X9.1 w9 n9 v9) 4 0); rw [l40]; exact a1
  · rw [ne _ (by omega)]; show _ = nI ((sp_up X9.1 w9 n9 v9) 4 4); rw [lo 4 4 (by omega)]; exact a2
  · rw [ne _ (by omega)]; show _ = nI ((sp_up X9.1 w9 n9 v9) 4 3); rw [lo 4 3 (by omega)]; exact a3
  · rw [ne _ (by omega)]; show _ = nI ((sp_up X9.1 w9 n9 v9) 4 1); rw [lo 4 1 (by omega)]; exact a4
  · rw [ne _ (by omega)]; show _ = nI ((sp_up X9.1 w9 n9 v9) 4 2); rw [lo 4 2 (by omega)]; exact a5
  · rw [ne _ (by omega)]; show _ = nI ((sp_up X9.1 w9 n9 v9) 4 5); rw [lo 4 5 (by omega)]; exact a6
  · have hc : c9 < (sp_up X9.1 w9 n9 v9) 4 0 := hc
    rw [l40] at hc
    rw [ne _ (by omega), ne _ (by omega), ne _ (by omega), ne _ (by omega)]
    show _ = nI ((sp_up X9.1 w9 n9 v9) 0 c9) ∧ _ = nI ((sp_up X9.1 w9 n9 v9) 1 c9) ∧ _ = nI ((sp_up X9.1 w9 n9 v9) 2 c9) ∧ _ = nI ((sp_up X9.1 w9 n9 v9) 3 c9)
    rw [lo 0 c9 (by omega), lo 1 c9 (by omega), lo 2 c9 (by omega), lo 3 c9 (by omega)]
    exact a7 c9 hc
  · rw [ne _ (by omega), a8 c9 hc]
    congr 1
    apply sp_mk_cong
    intro i9 _
    show _ = (_ && decide ((sp_up X9.1 w9 n9 v9) 6 (6 * c9 + i9) = 1))
    rw [lo 6 _ (by omega)]
  · have hp : p9 < (sp_up X9.1 w9 n9 v9) 4 4 := hp
    rw [lo 4 4 (by omega)] at hp
    show _ = nI ((sp_up X9.1 w9 n9 v9) 7 p9)
    rcases hw with ⟨w1, w2⟩ | ⟨w1, w2⟩
    · rw [w2, pg_si_at, w1]
      by_cases z9 : p9 = n9
      · rw [z9, pk_us, sp_up_at]
      · rw [pk_un z9, sp_up_ne (fun c => z9 c.2)]; exact a9 p9 hp
    · rw [ne _ (by omega), lo 7 p9 (by omega)]; exact a9 p9 hp
  · have hj : j9 < (sp_up X9.1 w9 n9 v9) 4 3 := hj
    rw [lo 4 3 (by omega)] at hj
    show _ = nI ((sp_up X9.1 w9 n9 v9) 5 j9)
    rcases hw with ⟨w1, w2⟩ | ⟨w1, w2⟩
    · rw [ne _ (by omega), lo 5 j9 (by omega)]; exact a10 j9 hj
    · rw [w2, pg_si_at, w1]
      by_cases z9 : j9 = n9
      · rw [z9, pk_us, sp_up_at]
      · rw [pk_un z9, sp_up_ne (fun c => z9 c.2)]; exact a10 j9 hj
  · have hc : c9 < (sp_up X9.1 w9 n9 v9) 4 0 := hc
    rw [l40] at hc
    exact b1 c9 hc
  · rw [ne 1 (by omega)]; exact b2
/-- a number of the line is written -/
theorem rc_rX.num {f9 i9 v9 : Nat} (hl : 3 ≤ l9) (hw : f9 = 11 ∧ i9 = 4 ∨ f9 = 12 ∧ i9 = 3 ∨ f9 = 13 ∧ i9 = 1 ∨ f9 = 14 ∧ i9 = 2) (h7 : i9 = 4 → ∀ j9, j9 < v9 → M.1 (l9 + 7) j9 = nI (X9.1 7 j9)) (h8 : i9 = 3 → ∀ j9, j9 < v9 → M.1 (l9 + 8) j9 = nI (X9.1 5 j9)) (hx : rc_rX M l9 X9) : rc_rX (pg_si M l9 f9 (nI v9)) l9 (sp_up X9.1 4 i9 v9, X9.2) := by
  obtain ⟨⟨a1, a2, a3, a4, a5, a6, a7, a8, a9, a10, a11, a12⟩, b1, b2⟩ := hx
  have ne : ∀ b9, b9 ≠ l9 → (pg_si M l9 f9 (nI v9)).1 b9 = M.1 b9 := fun b9 hb => pg_si_ne hb
  have n0 : ∀ j9, j9 ≠ f9 → (pg_si M l9 f9 (nI v9)).1 l9 j9 = M.1 l9 j9 := fun j9 hj => by rw [pg_si_at, pk_un hj]
  have ns : (pg_si M l9 f9 (nI v9)).1 l9 f9 = nI v9 := by rw [pg_si_at, pk_us]
  have lo : ∀ x9 y9, ¬ (x9 = 4 ∧ y9 = i9) → (sp_up X9.1 4 i9 v9) x9 y9 = X9.1 x9 y9 := fun x9 y9 z9 => sp_up_ne z9
  have ls : (sp_up X9.1 4 i9 v9) 4 i9 = v9 := sp_up_at _ _ _ _
  have one : ∀ g9 j9, (g9 = f9 ↔ j9 = i9) → M.1 l9 g9 = nI (X9.1 4 j9) → (pg_si M l9 f9 (nI v9)).1 l9 g9 = nI ((sp_up X9.1 4 i9 v9) 4 j9) := fun g9 j9 hi hm => by
    by_cases z9 : g9 = f9
    · rw [z9, ns, hi.mp z9, ls]
    · rw [n0 g9 z9, lo 4 j9 (fun c => z9 (hi.mpr c.2))]; exact hm
  have l40 : (sp_up X9.1 4 i9 v9) 4 0 = X9.1 4 0 := lo 4 0 (by omega)
  refine ⟨⟨one 10 0 (by omega) a1, one 11 4 (by omega) a2, one 12 3 (by omega) a3, one 13 1 (by omega) a4, one 14 2 (by omega) a5, one 15 5 (by omega) a6, fun c9 hc => ?_, fun c9 hc => ?_, fun p9 hp => ?_, fun j9 hj => ?_, a11.fr (ne _ (by omega)) (ne _ (by omega)), a12.fr (ne _ (by omega)) (ne _ (by omega))⟩, fun c9 hc => ?_, ?_⟩
  · have hc : c9 < (sp_up X9.1 4 i9 v9) 4 0 := hc
    rw [l40] at hc
    rw [ne _ (by omega), ne _ (by omega), ne _ (by omega), ne _ (by omega)]
    show _ = nI ((sp_up X9.1 4 i9 v9) 0 c9) ∧ _ = nI ((sp_up X9.1 4 i9 v9) 1 c9) ∧ _ = nI ((sp_up X9.1 4 i9 v9) 2 c9) ∧ _ = nI ((sp_up X9.1 4 i9 v9) 3 c9)
    rw [lo 0 c9 (by omega), lo 1 c9 (by omega), lo 2 c9 (by omega), lo 3 c9 (by omega)]
    exact a7 c9 hc
  · rw [ne _ (by omega), a8 c9 hc]
    congr 1
  · have hp : p9 < (sp_up X9.1 4 i9 v9) 4 4 := hp
    show _ = nI ((sp_up X9.1 4 i9 v9) 7 p9)
    rw [ne _ (by omega), lo 7 p9 (by omega)]
    by_cases z9 : i9 = 4
    · refine h7 z9 p9 ?_
      rw [z9, sp_up_at] at hp; exact hp
    · rw [lo 4 4 (by omega)] at hp
      exact a9 p9 hp
  · have hj : j9 < (sp_up X9.1 4 i9 v9) 4 3 := hj
    show _ = nI ((sp_up X9.1 4 i9 v9) 5 j9)
    rw [ne _ (by omega), lo 5 j9 (by omega)]
    by_cases z9 : i9 = 3
    · refine h8 z9 j9 ?_
      rw [z9, sp_up_at] at hj; exact hj
    · rw [lo 4 3 (by omega)] at hj
      exact a10 j9 hj
  · have hc : c9 < (sp_up X9.1 4 i9 v9) 4 0 := hc
    rw [l40] at hc
    exact b1 c9 hc
  · rw [ne 1 (by omega)]; exact b2
def rc_rp (l9 r9 w9 : Nat) (tp : List Nat) (X9 : rd_X) (M : pg_M) (x9 : Except Nat (Nat × Nat × sp_N)) (v9 : Int32) (M' : pg_M) : Prop := rc_lf l9 M M' ∧ match x9 with
  | .error e9 => rc_R M' tp (.error e9)
  | .ok y9 => rc_R M' tp (.ok y9.1) ∧ v9 = nI y9.2.1 ∧ rc_rX M' l9 (y9.2.2, X9.2) ∧ ∀ j9, j9 < y9.2.1 → M'.1 r9 j9 = nI (y9.2.2 w9 j9)
theorem rc_readRow6 {w9 r9 most lo : Nat} (hl : 3 ≤ l9) (hw : w9 = 7 ∧ r9 = l9 + 7 ∧ most = 8 ∨ w9 = 5 ∧ r9 = l9 + 8 ∧ most = 12) (hlo : lo < 2 ^ 31) (hX : pg_isX7 Λ) (hA : Λ r9 = some (.inr (.int, most, none))) (hk : tk_ok tp) : ∀ f9 k9 n9 L8 Mq, n9 ≤ most → most + 1 < f9 + n9 → rc_R Mq tp (.ok k9) → rc_rX Mq l9 (L8, X9.2) → (∀ j9, j9 < n9 → Mq.1 r9 j9 = nI (L8 w9 j9)) → rc_lf l9 M Mq → pg_At S Λ YX7_readRow (d + 4) 6 [(0, .ref 1), (1, .ref r9), (2, .int (nI lo)), (3, .int (nI 9)), (4, .int (nI n9)), (5, .int (nI n9))] [] Mq (fun q M' => ∃ v, q = some (.int v) ∧ rc_rp l9 r9 w9 tp X9 M (rd_row tp w9 most lo f9 k9 n9 L8) v M') := by
  intro f9
  induction f9 with
  | zero => intro k9 n9 L8 Mq h1 h2; omega
  | succ f9 ih9 =>
    intro k9 n9 L8 Mq h1 h2 hR hx hr hf
    have cb : ¬ (Int32.ofNat most) < nI n9 := by
      show ¬ nI most < nI n9
      rw [nI_ltI (by omega) (by omega)]; omega
    have s3 := hR.tk.s0 (c9 := 3) hk (by omega)
    have i0 : (nI n9 = 0) ↔ n9 = 0 := by rw [← nI_0, nI_eq (by omega) (by decide)]
    -- one round
    have go : (n9 = 0 ∨ (tk_tok tp k9).1 = 3) → pg_At S Λ YX7_readRow (d + 4) 33 [(0, .ref 1), (1, .ref r9), (2, .int (nI lo)), (3, .int (nI 9)), (4, .int (nI n9)), (5, .int (nI n9))] [] Mq (fun q M' => ∃ v, q = some (.int v) ∧ rc_rp l9 r9 w9 tp X9 M (rd_row tp w9 most lo (f9 + 1) k9 n9 L8) v M') := by
      intro c9
      have nh := pg_Ev.mono (d' := d + 3) (by omega) (rc_numberHere (S := S) (Λ := Λ) (d := d) (lo := lo) (hi := 9) hlo (by omega) hX hk hR)
      have hcl : (nI n9).toNatClampNeg = n9 := nI_clamp (by omega)
      have ilt : (nI n9 < Int32.ofNat most) ↔ n9 < most := by show nI n9 < nI most ↔ _; rw [nI_ltI (by omega) (by omega)]
      have erl : ∀ e9 (Mq2 : pg_M) (v4 : Int32), rc_R Mq2 tp (.error e9) → rc_lf l9 M Mq2 → rd_row tp w9 most lo (f9 + 1) k9 n9 L8 = .error e9 → pg_At S Λ YX7_readRow (d + 4) 6 [(0, .ref 1), (1, .ref r9), (2, .int (nI lo)), (3, .int (nI 9)), (4, .int v4), (5, .int (nI n9 + 1))] [] Mq2 (fun q M' => ∃ v, q = some (.int v) ∧ rc_rp l9 r9 w9 tp X9 M (rd_row tp w9 most lo (f9 + 1) k9 n9 L8) v M') := fun e9 Mq2 v4 g1 g2 he => by
        rw [he]
        have fin9 : ∃ v, (some (Value.int v4)) = some (.int v) ∧ rc_rp l9 r9 w9 tp X9 M (.error e9) v Mq2 := ⟨_, rfl, g2, g1⟩
        exact sX7_readRow_6 hA hX (fun _ => fin9) (fun _ _ => fin9) (fun _ c => absurd c g1.f1) (fun _ c => absurd c g1.f1) (fun _ c => absurd c g1.f1)
      have nxe : ∀ e9 Mq2, rc_R Mq2 tp (.error e9) ∧ rc_lf l9 M Mq2 → pg_Ev S Λ YX7_next (d + 3) [.ref 1] Mq2 (fun r M' => r = none ∧ (rc_R M' tp (.error e9) ∧ rc_lf l9 M M')) := by
        rintro e9 Mq2 ⟨g1, g2⟩
        refine pg_Ev.imp ?_ (rc_rnext (S := S) (d := d) hX hk g1)
        rintro q9 M9 ⟨y1, y2, y3⟩
        exact ⟨y1, y2, g2.trans y3.lf⟩
      cases hn : rd_num tp lo 9 k9 with
      | error e9 =>
        rw [hn] at nh
        have he : rd_row tp w9 most lo (f9 + 1) k9 n9 L8 = .error e9 := by
          simp only [rd_row]
          rw [if_pos c9, hn, rd_b_er]
        refine sX7_readRow_33 (Q0 := fun v M' => rc_v tp Mq (.error e9) k9 v M') (Q1 := fun M' => rc_R M' tp (.error e9) ∧ rc_lf l9 M M') (Q2 := fun _ => True) (Q3 := fun _ => True) (Q4 := fun _ => True) (Q5 := fun _ => True) (Q6 := fun _ => True) (Q7 := fun _ => True) hX hA nh (fun v9 Mq2 g9 _ _ => nxe e9 Mq2 ⟨g9.2, hf.trans g9.1.lf⟩) (fun v9 Mq2 _ _ _ Mq3 g9 => erl e9 Mq3 _ g9.1 g9.2 he) ?_ ?_ ?_ ?_ ?_ ?_ ?_ ?_ ?_ ?_ ?_ ?_ ?_ ?_
        all_goals first
          | (intro v9 Mq2 g9 _ c; exact absurd c g9.2.f1)
          | (intro v9 Mq2 g9 c; exact absurd c g9.2.f1)
      | ok m9 =>
        rw [hn] at nh
        by_cases cm : n9 = most
        · have he : rd_row tp w9 most lo (f9 + 1) k9 n9 L8 = .error (5 + 16 * tk_place tp k9) := by
            simp only [rd_row]
            rw [if_pos c9, hn, rd_b_ok, if_pos cm]; rfl
          have f5 : ∀ (v9 : Int32) Mq2, rc_v tp Mq (.ok m9) k9 v9 Mq2 → pg_Ev S Λ YX7_fail (d + 3) [.ref 1, .int 5] Mq2 (fun r M' => r = none ∧ (rc_R M' tp (.error (5 + 16 * tk_place tp k9)) ∧ rc_lf l9 M M')) := by
            rintro v9 Mq2 ⟨g1, g2, _⟩
            refine pg_Ev.imp ?_ (rc_rfail (S := S) (d := d + 3) (n9 := 5) (by omega) (by omega) hX hk g2)
            rintro q7 M9 ⟨y1, y2, y3⟩
            exact ⟨y1, y2, (hf.trans g1.lf).trans y3.lf⟩
          have nlt : ¬ nI n9 < Int32.ofNat most := by rw [ilt]; omega
          refine sX7_readRow_33 (Q0 := fun v M' => rc_v tp Mq (.ok m9) k9 v M') (Q1 := fun _ => True) (Q2 := fun _ => True) (Q3 := fun _ => True) (Q4 := fun _ => True) (Q5 := fun M' => rc_R M' tp (.error (5 + 16 * tk_place tp k9)) ∧ rc_lf l9 M M') (Q6 := fun M' => rc_R M' tp (.error (5 + 16 * tk_place tp k9)) ∧ rc_lf l9 M M') (Q7 := fun _ => True) hX hA nh (fun v9 Mq2 g9 c _ => absurd g9.2.1.f0 c) (fun v9 Mq2 g9 c _ => absurd g9.2.1.f0 c) (fun v9 Mq2 g9 c _ => absurd g9.2.1.f0 c) (fun v9 Mq2 g9 c _ => absurd g9.2.1.f0 c) (fun v9 Mq2 g9 c _ => absurd g9.2.1.f0 c) (fun v9 Mq2 _ _ c => absurd c nlt) (fun v9 Mq2 _ _ c => absurd c nlt) (fun v9 Mq2 _ _ c => absurd c nlt) (fun v9 Mq2 _ _ c => absurd c nlt) (fun v9 Mq2 _ _ c => absurd c nlt) (fun v9 Mq2 g9 _ _ => f5 v9 Mq2 g9) (fun v9 Mq2 _ _ _ Mq3 g9 _ => nxe _ Mq3 g9) (fun v9 Mq2 _ _ _ Mq3 _ _ Mq4 g9 => erl _ Mq4 _ g9.1 g9.2 he) (fun v9 Mq2 _ _ _ Mq3 g9 c => absurd c g9.1.f1) (fun v9 Mq2 _ _ _ Mq3 g9 c => absurd c g9.1.f1) (fun v9 Mq2 _ _ _ Mq3 g9 c => absurd c g9.1.f1)
        · have he : rd_row tp w9 most lo (f9 + 1) k9 n9 L8 = rd_row tp w9 most lo f9 (k9 + 1) (n9 + 1) (sp_up L8 w9 n9 m9) := by
            conv => lhs; simp only [rd_row]
            rw [if_pos c9, hn, rd_b_ok, if_neg cm]
          have plt : nI n9 < Int32.ofNat most := by rw [ilt]; omega
          have nx : ∀ (v9 : Int32) Mq2, rc_v tp Mq (.ok m9) k9 v9 Mq2 → pg_Ev S Λ YX7_next (d + 3) [.ref 1] (pg_si Mq2 r9 (nI n9).toNatClampNeg v9) (fun r M' => r = none ∧ (rc_R M' tp (.ok (k9 + 1)) ∧ rc_rX M' l9 (sp_up L8 w9 n9 m9, X9.2) ∧ (∀ j9, j9 < n9 + 1 → M'.1 r9 j9 = nI ((sp_up L8 w9 n9 m9) w9 j9)) ∧ rc_lf l9 M M')) := by
            rintro v9 Mq2 ⟨g1, g2, g3⟩
            rw [g3, hcl]
            refine pg_Ev.imp ?_ (rc_rnext (S := S) (d := d) hX hk (g2.si (a9 := r9) (k9 := n9) (v9 := nI m9) (by omega)))
            rintro q7 M9 ⟨y1, y2, y3⟩
            have x2 : rc_rX (pg_si Mq2 r9 n9 (nI m9)) l9 (sp_up L8 w9 n9 m9, X9.2) := (hx.rf g1 hl).row hl (by omega)
            refine ⟨y1, y2, x2.rf y3 hl, fun j9 hj => ?_, ((hf.trans g1.lf).trans (rc_lf.si (by omega) (by omega))).trans y3.lf⟩
            rw [y3.1.1 r9 (by simp; omega), pg_si_at]
            by_cases z9 : j9 = n9
            · rw [z9, pk_us, sp_up_at]
            · rw [pk_un z9, sp_up_ne (fun c => z9 c.2), g1.1.1 r9 (by simp; omega)]
              exact hr j9 (by omega)
          refine sX7_readRow_33 (Q0 := fun v M' => rc_v tp Mq (.ok m9) k9 v M') (Q1 := fun _ => True) (Q2 := fun _ => True) (Q3 := fun _ => True) (Q4 := fun M' => rc_R M' tp (.ok (k9 + 1)) ∧ rc_rX M' l9 (sp_up L8 w9 n9 m9, X9.2) ∧ (∀ j9, j9 < n9 + 1 → M'.1 r9 j9 = nI ((sp_up L8 w9 n9 m9) w9 j9)) ∧ rc_lf l9 M M') (Q5 := fun _ => True) (Q6 := fun _ => True) (Q7 := fun _ => True) hX hA nh (fun v9 Mq2 g9 c _ => absurd g9.2.1.f0 c) (fun v9 Mq2 g9 c _ => absurd g9.2.1.f0 c) (fun v9 Mq2 g9 c _ => absurd g9.2.1.f0 c) (fun v9 Mq2 g9 c _ => absurd g9.2.1.f0 c) (fun v9 Mq2 g9 c _ => absurd g9.2.1.f0 c) (fun v9 Mq2 g9 _ _ c => absurd g9.2.1.f0 c) (fun v9 Mq2 g9 _ _ c => absurd g9.2.1.f0 c) (fun v9 Mq2 _ _ _ _ => vp_in_nI (by omega) (by omega)) (fun v9 Mq2 g9 _ _ _ => nx v9 Mq2 g9) (fun v9 Mq2 _ _ _ _ Mq3 g9 => ?_) (fun v9 Mq2 _ _ c => absurd plt c) (fun v9 Mq2 _ _ c => absurd plt c) (fun v9 Mq2 _ _ c => absurd plt c) (fun v9 Mq2 _ _ c => absurd plt c) (fun v9 Mq2 _ _ c => absurd plt c) (fun v9 Mq2 _ _ c => absurd plt c)
          rw [he, nI_1]
          exact ih9 (k9 + 1) (n9 + 1) (sp_up L8 w9 n9 m9) Mq3 (by omega) (by omega) g9.1 g9.2.1 g9.2.2.1 g9.2.2.2
    refine sX7_readRow_6 hA hX (fun c => absurd c cb) (fun _ c => absurd hR.f0 c) (fun _ _ q9 => go (Or.inl (i0.mp q9))) (fun _ _ q9 q8 => ?_) (fun _ _ _ q8 => go (Or.inr (s3.mp q8)))
    refine ⟨_, rfl, ?_⟩
    have he : rd_row tp w9 most lo (f9 + 1) k9 n9 L8 = .ok (k9, n9, L8) := by
      simp only [rd_row]
      rw [if_neg]
      rintro (c | c)
      · exact q9 (i0.mpr c)
      · exact q8 (s3.mpr c)
    rw [he]
    exact ⟨hf, hR, rfl, hx, hr⟩
theorem rc_readRow {w9 r9 most lo f9 : Nat} (hl : 3 ≤ l9) (hw : w9 = 7 ∧ r9 = l9 + 7 ∧ most = 8 ∨ w9 = 5 ∧ r9 = l9 + 8 ∧ most = 12) (hf : most + 1 < f9) (hlo : lo < 2 ^ 31) (hX : pg_isX7 Λ) (hA : Λ r9 = some (.inr (.int, most, none))) (hk : tk_ok tp) (hR : rc_R M tp (.ok k9)) (hx : rc_rX M l9 X9) : pg_Ev S Λ YX7_readRow (d + 4) [.ref 1, .ref r9, .int (nI lo), .int 9] M (fun q M' => ∃ v, q = some (.int v) ∧ rc_rp l9 r9 w9 tp X9 M (rd_row tp w9 most lo f9 k9 0 X9.1) v M') :=
  oX7_readRow (sX7_readRow_0 (rc_readRow6 hl hw hlo hX hA hk f9 k9 0 X9.1 M (by omega) (by omega) hR hx (fun j9 hj => absurd hj (by omega)) pg_pf.rfl'))
end PGR
