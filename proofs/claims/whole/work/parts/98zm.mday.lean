/-! DAYS: the reference's day -/
def rm_rP (M : pg_M) (pl : List (Nat × Nat × Nat)) : Prop := ∀ (j9 : Nat) (e9 : Nat × Nat × Nat), pl[j9]? = some e9 → M.1 218 (100 + 3 * j9) = nI e9.1 ∧ M.1 218 (101 + 3 * j9) = nI e9.2.1 ∧ M.1 218 (102 + 3 * j9) = nI e9.2.2
def rm_df (M M' : pg_M) : Prop := pg_fr [207, 218] M M' ∧ (∀ j9, j9 ≠ 7 → j9 ≠ 8 → M'.1 207 j9 = M.1 207 j9) ∧ ∀ j9, j9 < 100 → M'.1 218 j9 = M.1 218 j9
theorem rm_df.rfl' {M : pg_M} : rm_df M M := ⟨pg_fr.rfl', fun _ _ _ => rfl, fun _ _ => rfl⟩
theorem rm_df.trans {M Mq1 Mq2 : pg_M} (g1 : rm_df M Mq1) (g2 : rm_df Mq1 Mq2) : rm_df M Mq2 := ⟨g1.1.trans g2.1, fun j9 a1 a2 => (g2.2.1 j9 a1 a2).trans (g1.2.1 j9 a1 a2), fun j9 hj => (g2.2.2 j9 hj).trans (g1.2.2 j9 hj)⟩
theorem rm_rf.df {M M' : pg_M} (g : rm_rf M M') : rm_df M M' := ⟨g.1.mono (by simp), g.2, fun j9 _ => by rw [g.1.1 218 (by decide)]⟩
theorem rm_df.s18 {M : pg_M} {k9 : Nat} {v9 : Int32} (hk : 100 ≤ k9) : rm_df M (pg_si M 218 k9 v9) := ⟨pg_fr.si (by simp), fun j9 _ _ => by rw [pg_si_ne (by decide)], fun j9 hj => by rw [pg_si_at, pk_un (by omega)]⟩
theorem rm_rP.rf {M M' : pg_M} {pl : List (Nat × Nat × Nat)} (hp : rm_rP M pl) (g : rm_rf M M') : rm_rP M' pl := by
  unfold rm_rP at hp ⊢
  rw [g.1.1 218 (by decide)]; exact hp
theorem rm_rP.s18 {M : pg_M} {k9 : Nat} {v9 : Int32} {pl : List (Nat × Nat × Nat)} (hp : rm_rP M pl) (hk : 100 + 3 * pl.length ≤ k9) : rm_rP (pg_si M 218 k9 v9) pl := fun j9 e9 hj => by
  have hl := (List.getElem?_eq_some_iff.mp hj).1
  rw [pg_si_at, pk_un (by omega), pk_un (by omega), pk_un (by omega)]
  exact hp j9 e9 hj
theorem rm_R.s18 {M : pg_M} {tp : List Nat} {n9 k9 : Nat} {z9 : tk_st} {v9 : Int32} (hR : rm_R M tp n9 z9) : rm_R (pg_si M 218 k9 v9) tp n9 z9 := hR.fr9 (pg_si_ne (by decide)) (pg_si_ne (by decide)) rfl rfl (by rw [pg_si_ne (by decide)]) (by rw [pg_si_ne (by decide)])
theorem rm_rN.s18 {M : pg_M} {b9 m9 k9 : Nat} {nm : Nat → List Nat} {v9 : Int32} (hn : rm_rN M b9 m9 nm) : rm_rN (pg_si M 218 k9 v9) b9 m9 nm := ⟨by rw [pg_si_ne (by decide)]; exact hn.1, hn.2⟩
def rm_dp (n9 : Nat) (tp : List Nat) (M : pg_M) (x9 : Except Nat (Nat × List (Nat × Nat × Nat))) (M' : pg_M) : Prop := rm_df M M' ∧ match x9 with
  | .ok y9 => rm_R M' tp n9 (.ok y9.1) ∧ rm_rP M' y9.2
  | .error e9 => rm_R M' tp n9 (.error e9)
section PGR
variable {S : pg_S} {Λ : pg_L} {d n9 : Nat} {M : pg_M} {tp : List Nat} {pl : List (Nat × Nat × Nat)}
/-- the sign behind a deed -/
theorem rm_dsign {z9 : tk_st} {e9 : Nat × Nat × Nat} {Mq : pg_M} (hX : pg_isX11 Λ) (hk : tk_ok tp) (g1 : rm_df M Mq) (g2 : rm_R Mq tp n9 z9) (g3 : rm_rP Mq pl) (hv : ∀ k9, z9 = .ok k9 → Mq.1 218 (100 + 3 * pl.length) = nI e9.1 ∧ Mq.1 218 (101 + 3 * pl.length) = nI e9.2.1 ∧ Mq.1 218 (102 + 3 * pl.length) = nI e9.2.2) : pg_Ev S Λ YX11_takeSign (d + 1) [.ref 207, .int 59] Mq (fun q M' => q = none ∧ rm_dp n9 tp M (rd_ad (tk_exp tp 59 z9) pl e9) M') := by
  refine pg_Ev.imp ?_ (rm_takeSign (S := S) (d := d) (c9 := 59) (by omega) hX hk g2)
  rintro q7 M9 ⟨y1, y2, y3⟩
  refine ⟨y1, g1.trans y3.df, ?_⟩
  cases z9 with
  | error f9 => exact y2
  | ok k9 =>
    cases hz : tk_exp tp 59 (.ok k9) with
    | error f9 => rw [hz] at y2; exact y2
    | ok k8 =>
      rw [hz] at y2
      refine ⟨y2, fun j9 a9 hj => ?_⟩
      have hj : (pl ++ [e9])[j9]? = some a9 := hj
      by_cases z9 : j9 = pl.length
      · subst z9
        rw [List.getElem?_append_right (Nat.le_refl _), Nat.sub_self] at hj
        rw [← Option.some.inj hj, y3.1.1 218 (by decide)]
        exact hv k9 rfl
      · have hjl : j9 < pl.length := by
          have := (List.getElem?_eq_some_iff.mp hj).1
          simp at this; omega
        rw [List.getElem?_append_left hjl] at hj
        exact g3.rf y3 j9 a9 hj
theorem rm_day182 {P9 : Option Value → pg_M → Prop} (hX : pg_isX11 Λ) (h30 : pl.length ≤ 30) (hp : rm_rP M pl) (hd : ∀ Mq, rm_P Mq pl → pg_fr [218] M Mq → P9 (some (.int 0)) Mq) : pg_At S Λ YX11_day (d + 1) 182 [(0, .ref 207), (1, .int (nI pl.length)), (2, .int 0)] [] (pg_si M 218 (0 : Int32).toNatClampNeg (nI pl.length)) P9 := by
  have e3 : (3 : Int32) * nI pl.length = nI (3 * pl.length) := by rw [show (3 : Int32) = nI 3 from rfl, pk_mul]
  rw [show (0 : Int32).toNatClampNeg = 0 by decide]
  refine pg_loop (fun i9 (mq : pg_M) => pg_At S Λ YX11_day (d + 1) 182 [(0, .ref 207), (1, .int (nI pl.length)), (2, .int (nI i9))] [] mq P9) (fun i9 mq => mq.1 218 0 = nI pl.length ∧ (∀ j9, j9 < i9 → mq.1 218 (1 + j9) = M.1 218 (100 + j9)) ∧ (∀ j9, 100 ≤ j9 → mq.1 218 j9 = M.1 218 j9) ∧ pg_fr [218] M mq) (3 * pl.length) ?_ ?_ 0 _ (Nat.zero_le _) ⟨by rw [pg_si_at, pk_us], fun j9 hj => absurd hj (by omega), fun j9 hj => by rw [pg_si_at, pk_un (by omega)], pg_fr.si (by simp)⟩
  · rintro mq ⟨a1, a2, a3, a4⟩
    have cq : (3 : Int32) * nI pl.length ≤ nI (3 * pl.length) := by rw [e3]; exact nI_le (Nat.le_refl _) (by omega)
    refine sX11_day_182 hX (fun _ => hd mq ⟨a1, fun j9 e9 hj => ?_⟩ a4) (fun c => absurd cq c) (fun c => absurd cq c) (fun c => absurd cq c)
    have hl := (List.getElem?_eq_some_iff.mp hj).1
    have := hp j9 e9 hj
    rw [a2 (3 * j9) (by omega), show 2 + 3 * j9 = 1 + (3 * j9 + 1) by omega, a2 (3 * j9 + 1) (by omega), show 3 + 3 * j9 = 1 + (3 * j9 + 2) by omega, a2 (3 * j9 + 2) (by omega), show 100 + (3 * j9 + 1) = 101 + 3 * j9 by omega, show 100 + (3 * j9 + 2) = 102 + 3 * j9 by omega]
    exact this
  · rintro i9 mq hi ⟨a1, a2, a3, a4⟩ ihq
    have cq : ¬ (3 : Int32) * nI pl.length ≤ nI i9 := by rw [e3]; exact nI_ge hi (by omega)
    have e1 : (1 : Int32) + nI i9 = nI (1 + i9) := by rw [show (1 : Int32) = nI 1 from rfl, nI_add]
    have e100 : (100 : Int32) + nI i9 = nI (100 + i9) := by rw [show (100 : Int32) = nI 100 from rfl, nI_add]
    refine sX11_day_182 hX (fun c => absurd c cq) (fun _ => by rw [e100]; exact vp_in_nI (by omega) (by decide)) (fun _ => by rw [e1]; exact vp_in_nI (by omega) (by decide)) (fun _ => ?_)
    rw [nI_1, e1, e100, nI_clamp (n := 1 + i9) (by omega), nI_clamp (n := 100 + i9) (by omega)]
    refine ihq _ ⟨by rw [pg_si_at, pk_un (by omega)]; exact a1, fun j9 hj => ?_, fun j9 hj => by rw [pg_si_at, pk_un (by omega)]; exact a3 j9 hj, a4.trans (pg_fr.si (by simp))⟩
    rw [pg_si_at]
    by_cases z9 : j9 = i9
    · rw [z9, pk_us]; exact a3 (100 + i9) (by omega)
    · rw [pk_un (by omega)]; exact a2 j9 (by omega)
theorem rm_day11 {P9 : Option Value → pg_M → Prop} {nm : Nat → List Nat} {L9 : sp_N} (hX : pg_isX11 Λ) (hk : tk_ok tp) (ho : rd_nok (L9 4 0) nm) (hn : rm_rN M 0 (L9 4 0) nm) : ∀ f9 k9 pl Mq, k9 ≤ tp.length → tp.length < f9 + k9 → (pl.length ≤ 30 ∧ ∀ e9, e9 ∈ pl → sp_okP L9 e9) → rm_R Mq tp n9 (.ok k9) → rm_rP Mq pl → rm_df M Mq →
    (∀ pl2 Mq2, rd_dones tp nm (L9 4 0) f9 k9 pl = .ok pl2 → pl2.length ≤ 30 → rm_rP Mq2 pl2 → rm_df M Mq2 → pg_At S Λ YX11_day (d + 5) 182 [(0, .ref 207), (1, .int (nI pl2.length)), (2, .int 0)] [] (pg_si Mq2 218 (0 : Int32).toNatClampNeg (nI pl2.length)) P9) →
    (∀ e9 Mq2, rd_dones tp nm (L9 4 0) f9 k9 pl = .error e9 → rm_R Mq2 tp n9 (.error e9) → rm_df M Mq2 → P9 (some (.int (nI e9))) Mq2) →
    pg_At S Λ YX11_day (d + 5) 11 [(0, .ref 207), (1, .int (nI pl.length))] [] Mq P9 := by
  intro f9
  induction f9 with
  | zero => intro k9 pl Mq h1 h2; omega
  | succ f9 ih9 =>
    intro k9 pl Mq h1 h2 hp hR hP hf kok ker
    have h30 := hp.1
    have s0 := hR.s0 hk
    by_cases c9 : (tk_tok tp k9).1 = 0
    · have he : rd_dones tp nm (L9 4 0) (f9 + 1) k9 pl = .ok pl := by simp only [rd_dones]; rw [if_pos c9]
      have y0 := s0.mpr c9
      exact sX11_day_11 (Q0 := fun _ _ => True) (Q1 := fun _ => True) (Q2 := fun _ _ => True) (Q3 := fun _ => True) (Q4 := fun _ _ => True) (Q5 := fun _ => True) (Q6 := fun _ _ => True) (Q7 := fun _ => True) (Q8 := fun _ _ => True) (Q9 := fun _ => True) (Q10 := fun _ _ => True) (Q11 := fun _ => True) (Q12 := fun _ => True) (Q13 := fun _ => True) (Q14 := fun _ => True) (Q15 := fun _ => True) hX (fun c => absurd hR.z0 c) (fun c => absurd hR.z0 c) (fun _ => hR.vin) (fun _ _ _ => kok pl Mq he hp.1 hP hf) (fun _ _ c => absurd hR.f0 c) (fun _ c => absurd y0 c) (fun _ c => absurd y0 c) (fun _ c => absurd y0 c) (fun _ c => absurd y0 c) (fun _ c => absurd y0 c) (fun _ c => absurd y0 c) (fun _ c => absurd y0 c) (fun _ c => absurd y0 c) (fun _ c => absurd y0 c) (fun _ c => absurd y0 c) (fun _ c => absurd y0 c) (fun _ c => absurd y0 c) (fun _ c => absurd y0 c) (fun _ c => absurd y0 c) (fun _ c => absurd y0 c) (fun _ c => absurd y0 c) (fun _ c => absurd y0 c) (fun _ c => absurd y0 c) (fun _ c => absurd y0 c) (fun _ c => absurd y0 c) (fun _ c => absurd y0 c) (fun _ c => absurd y0 c) (fun _ c => absurd y0 c) (fun _ c => absurd y0 c) (fun _ c => absurd y0 c) (fun _ c => absurd y0 c) (fun _ c => absurd y0 c) (fun _ c => absurd y0 c) (fun _ c => absurd y0 c) (fun _ c => absurd y0 c) (fun _ c => absurd y0 c) (fun _ c => absurd y0 c) (fun _ c => absurd y0 c) (fun _ c => absurd y0 c)
    · have kl : k9 < tp.length := tk_in c9
      have m0 : ¬ Mq.1 209 (Mq.1 207 7).toNatClampNeg = 0 := fun c => c9 (s0.mp c)
      have he : rd_dones tp nm (L9 4 0) (f9 + 1) k9 pl = rd_b (rd_done tp nm (L9 4 0) k9 pl) (fun r9 => rd_dones tp nm (L9 4 0) f9 r9.1 r9.2) := by
        conv => lhs; simp only [rd_dones]
        rw [if_neg c9]
      -- behind the deed
      have goon : ∀ (v9 : Int32) Mq2, (∀ y9, rd_done tp nm (L9 4 0) k9 pl = .ok y9 → v9 = nI y9.2.length) → rm_dp n9 tp M (rd_done tp nm (L9 4 0) k9 pl) Mq2 → pg_At S Λ YX11_day (d + 5) 11 [(0, .ref 207), (1, .int v9)] [] Mq2 P9 := by
        rintro v9 Mq2 hv ⟨g1, g2⟩
        cases hs : rd_done tp nm (L9 4 0) k9 pl with
        | error e9 =>
          rw [hs] at g2 he
          rw [rd_b_er] at he
          have fin9 : P9 (some (.int (Mq2.1 207 8))) Mq2 := by
            have := ker e9 Mq2 he g2 g1
            obtain ⟨_, _, _, _, z1, _⟩ := g2
            rw [z1]; exact this
          exact sX11_day_11 (Q0 := fun _ _ => True) (Q1 := fun _ => True) (Q2 := fun _ _ => True) (Q3 := fun _ => True) (Q4 := fun _ _ => True) (Q5 := fun _ => True) (Q6 := fun _ _ => True) (Q7 := fun _ => True) (Q8 := fun _ _ => True) (Q9 := fun _ => True) (Q10 := fun _ _ => True) (Q11 := fun _ => True) (Q12 := fun _ => True) (Q13 := fun _ => True) (Q14 := fun _ => True) (Q15 := fun _ => True) hX (fun _ c => absurd c g2.fle) (fun _ _ => fin9) (fun c => absurd c g2.e0) (fun c => absurd c g2.e0) (fun c => absurd c g2.e0) (fun c => absurd c g2.e0) (fun c => absurd c g2.e0) (fun c => absurd c g2.e0) (fun c => absurd c g2.e0) (fun c => absurd c g2.e0) (fun c => absurd c g2.e0) (fun c => absurd c g2.e0) (fun c => absurd c g2.e0) (fun c => absurd c g2.e0) (fun c => absurd c g2.e0) (fun c => absurd c g2.e0) (fun c => absurd c g2.e0) (fun c => absurd c g2.e0) (fun c => absurd c g2.e0) (fun c => absurd c g2.e0) (fun c => absurd c g2.e0) (fun c => absurd c g2.e0) (fun c => absurd c g2.e0) (fun c => absurd c g2.e0) (fun c => absurd c g2.e0) (fun c => absurd c g2.e0) (fun c => absurd c g2.e0) (fun c => absurd c g2.e0) (fun c => absurd c g2.e0) (fun c => absurd c g2.e0) (fun c => absurd c g2.e0) (fun c => absurd c g2.e0) (fun c => absurd c g2.e0) (fun c => absurd c g2.e0) (fun c => absurd c g2.e0) (fun c => absurd c g2.e0) (fun c => absurd c g2.e0) (fun c => absurd c g2.e0) (fun c => absurd c g2.e0)
        | ok p9 =>
          rw [hs] at g2 he
          rw [rd_b_ok] at he
          obtain ⟨z1, z2, z3⟩ := rd_done_ok (L9 := L9) hp hs
          rw [hv p9 hs]
          exact ih9 p9.1 p9.2 Mq2 z3 (by omega) z1 g2.1 g2.2 g1 (fun pl2 Mq3 h => kok pl2 Mq3 (by rw [he]; exact h)) (fun e9 Mq3 h => ker e9 Mq3 (by rw [he]; exact h))
      have wh := pg_Ev.mono (d' := d + 4) (by omega) (rm_wordHere (S := S) (Λ := Λ) (d := d) (a9 := 11) (m9 := 5) (by omega) hX hk hR)
      have hh9 : tk_here tp 11 5 (.ok k9) = (match tk_wd (tk_tok tp k9) with
        | none => (-1 : Int32)
        | some j9 => if 11 ≤ j9 ∧ j9 < 11 + 5 then nI (j9 - 11) else -1) := rfl
      -- a fault at the word
      have sge : ∀ m9 Mq2, rd_done tp nm (L9 4 0) k9 pl = .error (m9 + 16 * tk_place tp k9) → rm_R Mq2 tp n9 (.error (m9 + 16 * tk_place tp k9)) → rm_rf Mq Mq2 → pg_Ev S Λ YX11_takeSign (d + 4) [.ref 207, .int 59] Mq2 (fun q M' => q = none ∧ rm_dp n9 tp M (rd_done tp nm (L9 4 0) k9 pl) M') := fun m9 Mq2 hd g1 g2 => by
        rw [hd]
        refine pg_Ev.mono (by omega) (pg_Ev.imp ?_ (rm_takeSign (S := S) (d := d) (c9 := 59) (by omega) hX hk g1))
        rintro q7 M9 ⟨y1, y2, y3⟩
        exact ⟨y1, (hf.trans g2.df).trans y3.df, y2⟩
      by_cases cj : ∃ w9, w9 < 5 ∧ tk_wd (tk_tok tp k9) = some (11 + w9)
      · obtain ⟨w9, h5, hw⟩ := cj
        have ehe : tk_here tp 11 5 (.ok k9) = nI w9 := by
          rw [hh9, hw]
          show (if 11 ≤ 11 + w9 ∧ 11 + w9 < 11 + 5 then nI (11 + w9 - 11) else -1) = _
          rw [if_pos (by omega), Nat.add_sub_cancel_left]
        rw [ehe] at wh
        have po : ∀ v9 : Int32, v9 = nI w9 → (0 : Int32) ≤ v9 := fun v9 e9 => by rw [e9, ← nI_0, nI_leI (by decide) (by omega)]; omega
        by_cases c30 : pl.length = 30
        · have q30 : nI pl.length = (30 : Int32) := by rw [c30]; rfl
          have hd : rd_done tp nm (L9 4 0) k9 pl = .error (5 + 16 * tk_place tp k9) := by
            unfold rd_done
            rw [hw]
            show (if 11 ≤ 11 + w9 ∧ 11 + w9 ≤ 15 then (if pl.length = 30 then rd_e tp 5 k9 else _) else rd_e tp 1 k9) = _
            rw [if_pos (by omega), if_pos c30]; rfl
          have w5 := rm_wrong (S := S) (Λ := Λ) (d := d + 4) (m9 := 5) (by omega) (by omega) hX hk hR
          refine sX11_day_11 (Q0 := fun v M' => v = nI w9 ∧ M' = Mq) (Q1 := fun _ => True) (Q2 := fun _ _ => True) (Q3 := fun _ => True) (Q4 := fun _ _ => True) (Q5 := fun _ => True) (Q6 := fun _ _ => True) (Q7 := fun _ => True) (Q8 := fun _ _ => True) (Q9 := fun _ => True) (Q10 := fun _ _ => True) (Q11 := fun _ => True) (Q12 := fun M' => rm_R M' tp n9 (.error (5 + 16 * tk_place tp k9)) ∧ rm_rf Mq M' ∧ M'.1 207 7 = Mq.1 207 7) (Q13 := fun M' => rm_dp n9 tp M (rd_done tp nm (L9 4 0) k9 pl) M') (Q14 := fun _ => True) (Q15 := fun _ => True) hX (fun c => absurd hR.z0 c) (fun c => absurd hR.z0 c) (fun _ => hR.vin) (fun _ c => absurd c m0) (fun _ c => absurd c m0) (fun _ _ => wh) ?_ ?_ ?_ ?_ ?_ ?_ ?_ ?_ ?_ ?_ ?_ ?_ ?_ ?_ ?_ ?_ ?_ ?_ ?_ ?_ ?_ ?_ ?_ ?_ ?_ ?_ ?_ (fun _ _ v9 Mq2 y9 _ _ => by rw [y9.2]; exact w5) (fun _ _ v9 Mq2 _ _ _ Mq3 y9 => sge 5 Mq3 hd y9.1 y9.2.1) (fun _ _ v9 Mq2 _ _ _ Mq3 _ Mq4 g9 => goon _ Mq4 (fun y9 hy => by rw [hd] at hy; cases hy) g9) (fun _ _ v9 Mq2 y9 c => absurd (po v9 y9.1) c) (fun _ _ v9 Mq2 y9 c => absurd (po v9 y9.1) c) (fun _ _ v9 Mq2 y9 c => absurd (po v9 y9.1) c)
          all_goals (intro _ _ v9 Mq2 _ _ c; exact absurd q30 c)
        · have n30 : ¬ nI pl.length = (30 : Int32) := by rw [show (30 : Int32) = nI 30 from rfl, nI_eq (by omega) (by decide)]; exact c30
          have l30 : pl.length < 30 := by omega
          have eqd := rd_done_eq (tp := tp) (nm := nm) (n9 := L9 4 0) (pl := pl) hw h5 c30
          obtain ⟨r1, f1⟩ := hR.adv c9
          have e3n : (3 : Int32) * nI pl.length = nI (3 * pl.length) := by rw [show (3 : Int32) = nI 3 from rfl, pk_mul]
          have e100 : (100 : Int32) + 3 * nI pl.length = nI (100 + 3 * pl.length) := by rw [e3n, show (100 : Int32) = nI 100 from rfl, nI_add]
          have e101 : (101 : Int32) + 3 * nI pl.length = nI (101 + 3 * pl.length) := by rw [e3n, show (101 : Int32) = nI 101 from rfl, nI_add]
          have e102 : (102 : Int32) + 3 * nI pl.length = nI (102 + 3 * pl.length) := by rw [e3n, show (102 : Int32) = nI 102 from rfl, nI_add]
          have c100 : ((100 : Int32) + 3 * nI pl.length).toNatClampNeg = 100 + 3 * pl.length := by rw [e100]; exact nI_clamp (by omega)
          have c101 : ((101 : Int32) + 3 * nI pl.length).toNatClampNeg = 101 + 3 * pl.length := by rw [e101]; exact nI_clamp (by omega)
          have c102 : ((102 : Int32) + 3 * nI pl.length).toNatClampNeg = 102 + 3 * pl.length := by rw [e102]; exact nI_clamp (by omega)
          have v100 : vp_in ((100 : Int32) + 3 * nI pl.length) 200 := by rw [e100]; exact vp_in_nI (by omega) (by decide)
          have v101 : vp_in ((101 : Int32) + 3 * nI pl.length) 200 := by rw [e101]; exact vp_in_nI (by omega) (by decide)
          have v102 : vp_in ((102 : Int32) + 3 * nI pl.length) 200 := by rw [e102]; exact vp_in_nI (by omega) (by decide)
          -- what was done is laid
          have r2 : rm_R (pg_si (pg_si Mq 207 7 ((Mq.1 207 7) + 1)) 218 (100 + 3 * pl.length) (nI w9)) tp n9 (.ok (k9 + 1)) := r1.s18
          have p2 : rm_rP (pg_si (pg_si Mq 207 7 ((Mq.1 207 7) + 1)) 218 (100 + 3 * pl.length) (nI w9)) pl := (hP.rf f1).s18 (Nat.le_refl _)
          have d2 : rm_df M (pg_si (pg_si Mq 207 7 ((Mq.1 207 7) + 1)) 218 (100 + 3 * pl.length) (nI w9)) := (hf.trans f1.df).trans (rm_df.s18 (by omega))
          have a2 : (pg_si (pg_si Mq 207 7 ((Mq.1 207 7) + 1)) 218 (100 + 3 * pl.length) (nI w9)).1 218 (100 + 3 * pl.length) = nI w9 := by rw [pg_si_at, pk_us]
          have nn2 : rm_rN (pg_si (pg_si Mq 207 7 ((Mq.1 207 7) + 1)) 218 (100 + 3 * pl.length) (nI w9)) 0 (L9 4 0) nm := ⟨by rw [d2.2.1 16 (by decide) (by decide)]; exact hn.1, fun c9 hc => by rw [d2.1.2.1 216 (by decide)]; exact hn.2 c9 hc⟩
          have lenv : ∀ y9, rd_done tp nm (L9 4 0) k9 pl = .ok y9 → nI pl.length + 1 = nI y9.2.length := fun y9 hy => by
            rw [eqd] at hy
            obtain ⟨a9, ha, hy⟩ := rd_b_inv hy
            cases hz : tk_exp tp 59 (.ok a9.1) with
            | error f9 => rw [hz] at hy; cases hy
            | ok k8 =>
              rw [hz] at hy
              have hy : (.ok (k8, pl ++ [a9.2]) : Except Nat (Nat × List (Nat × Nat × Nat))) = .ok y9 := hy
              injection hy with hy
              rw [← hy, nI_1]; simp
          -- the sign, and on
          have sg : ∀ (x9 : Except Nat (Nat × Nat × Nat × Nat)) Mx, rd_deed tp nm (L9 4 0) k9 w9 = x9 → rm_df M Mx → rm_rP Mx pl → (match x9 with
              | .error f9 => rm_R Mx tp n9 (.error f9)
              | .ok r9 => rm_R Mx tp n9 (.ok r9.1) ∧ Mx.1 218 (100 + 3 * pl.length) = nI r9.2.1 ∧ Mx.1 218 (101 + 3 * pl.length) = nI r9.2.2.1 ∧ Mx.1 218 (102 + 3 * pl.length) = nI r9.2.2.2) → pg_Ev S Λ YX11_takeSign (d + 4) [.ref 207, .int 59] Mx (fun q M' => q = none ∧ rm_dp n9 tp M (rd_done tp nm (L9 4 0) k9 pl) M') := fun x9 Mx hx g1 g2 g3 => by
            rw [eqd, hx]
            cases x9 with
            | error f9 => exact pg_Ev.mono (by omega) (rm_dsign (S := S) (d := d) (z9 := .error f9) (e9 := (0, 0, 0)) hX hk g1 g3 g2 (fun _ c => by cases c))
            | ok r9 => exact pg_Ev.mono (by omega) (rm_dsign (S := S) (d := d) (z9 := .ok r9.1) (e9 := r9.2) hX hk g1 g3.1 g2 (fun _ _ => g3.2))
          have i3 : ∀ v9 : Int32, v9 = nI w9 → ((3 : Int32) ≤ v9 ↔ 3 ≤ w9) := fun v9 e9 => by rw [e9, show (3 : Int32) = nI 3 from rfl, nI_leI (by decide) (by omega)]
          have ie3 : ∀ v9 : Int32, v9 = nI w9 → (v9 = 3 ↔ w9 = 3) := fun v9 e9 => by rw [e9, show (3 : Int32) = nI 3 from rfl, nI_eq (by omega) (by decide)]
          have ie0 : ∀ v9 : Int32, v9 = nI w9 → (v9 = 0 ↔ w9 = 0) := fun v9 e9 => by rw [e9, ← nI_0, nI_eq (by omega) (by decide)]
          by_cases w3 : w9 < 3
          · -- of a cloth
            have tt : pg_Ev S Λ YX11_takeTold (d + 4) [.ref 207, .int 0] (pg_si (pg_si Mq 207 7 ((Mq.1 207 7) + 1)) 218 (100 + 3 * pl.length) (nI w9)) (fun r M' => ∃ v, r = some (.int v) ∧ rm_v tp n9 (pg_si (pg_si Mq 207 7 ((Mq.1 207 7) + 1)) 218 (100 + 3 * pl.length) (nI w9)) (rd_told tp nm (L9 4 0) (k9 + 1)) (k9 + 2) v M') := rm_takeTold (S := S) (d := d) (b9 := 0) (by omega) hX hk r2 nn2 ho
            have n3 : ∀ v9 : Int32, v9 = nI w9 → ¬ (3 : Int32) ≤ v9 := fun v9 e9 c => by have := (i3 v9 e9).mp c; omega
            by_cases w0 : w9 = 0
            · -- hang
              have rdd : rd_deed tp nm (L9 4 0) k9 w9 = rd_b (rd_told tp nm (L9 4 0) (k9 + 1)) (fun c9 => rd_b (rd_pegs tp 6 (k9 + 2) 0 0) (fun r9 => .ok (r9.1, 0, c9, r9.2))) := by unfold rd_deed; rw [if_pos w0]
              have pgs : ∀ v9 Mq3, rm_v tp n9 (pg_si (pg_si Mq 207 7 ((Mq.1 207 7) + 1)) 218 (100 + 3 * pl.length) (nI w9)) (rd_told tp nm (L9 4 0) (k9 + 1)) (k9 + 2) v9 Mq3 → pg_Ev S Λ YX11_readPegs (d + 4) [.ref 207] (pg_si Mq3 218 (101 + 3 * pl.length) v9) (fun q M' => ∃ v, q = some (.int v) ∧ (rm_df M (pg_si M' 218 (102 + 3 * pl.length) v) ∧ rm_rP (pg_si M' 218 (102 + 3 * pl.length) v) pl ∧ match rd_deed tp nm (L9 4 0) k9 w9 with
                  | .error f9 => rm_R (pg_si M' 218 (102 + 3 * pl.length) v) tp n9 (.error f9)
                  | .ok r9 => rm_R (pg_si M' 218 (102 + 3 * pl.length) v) tp n9 (.ok r9.1) ∧ (pg_si M' 218 (102 + 3 * pl.length) v).1 218 (100 + 3 * pl.length) = nI r9.2.1 ∧ (pg_si M' 218 (102 + 3 * pl.length) v).1 218 (101 + 3 * pl.length) = nI r9.2.2.1 ∧ (pg_si M' 218 (102 + 3 * pl.length) v).1 218 (102 + 3 * pl.length) = nI r9.2.2.2)) := by
                rintro v9 Mq3 ⟨g1, g2⟩
                have d3 : rm_df M (pg_si Mq3 218 (101 + 3 * pl.length) v9) := (d2.trans g1.df).trans (rm_df.s18 (by omega))
                have p3 : rm_rP (pg_si Mq3 218 (101 + 3 * pl.length) v9) pl := (p2.rf g1).s18 (by omega)
                rw [rdd]
                cases ht : rd_told tp nm (L9 4 0) (k9 + 1) with
                | error e9 =>
                  rw [ht] at g2
                  refine pg_Ev.mono (by omega) (pg_Ev.imp ?_ (rm_readPegs_e (S := S) (d := d) (n9 := n9) (tp := tp) (e9 := e9) hX (g2.s18 (k9 := 101 + 3 * pl.length) (v9 := v9))))
                  rintro q7 M9 ⟨v7, y1, y2⟩
                  rw [y2]
                  exact ⟨v7, y1, d3.trans (rm_df.s18 (by omega)), p3.s18 (by omega), (g2.s18).s18⟩
                | ok c8 =>
                  rw [ht] at g2
                  refine pg_Ev.mono (by omega) (pg_Ev.imp ?_ (rm_readPegs (S := S) (d := d) (n9 := n9) (tp := tp) (k9 := k9 + 2) hX hk (g2.1.s18 (k9 := 101 + 3 * pl.length) (v9 := v9))))
                  rintro q7 M9 ⟨v7, y1, y2, y3⟩
                  refine ⟨v7, y1, (d3.trans y2.df).trans (rm_df.s18 (by omega)), (p3.rf y2).s18 (by omega), ?_⟩
                  rw [rd_b_ok]
                  cases hg : rd_pegs tp 6 (k9 + 2) 0 0 with
                  | error e9 => rw [hg] at y3; exact y3.s18
                  | ok r9 =>
                    rw [hg] at y3
                    refine ⟨y3.1.s18, ?_, ?_, ?_⟩
                    · show _ = nI 0
                      rw [pg_si_at, pk_un (by omega), y2.1.1 218 (by decide), pg_si_at, pk_un (by omega), g1.1.1 218 (by decide), a2, w0]
                    · show _ = nI c8
                      rw [pg_si_at, pk_un (by omega), y2.1.1 218 (by decide), pg_si_at, pk_us]; exact g2.2
                    · show _ = nI r9.2
                      rw [pg_si_at, pk_us]; exact y3.2
              have y0 : ∀ v9 : Int32, v9 = nI w9 → v9 = 0 := fun v9 e9 => (ie0 v9 e9).mpr w0
              refine sX11_day_11 (Q0 := fun v M' => v = nI w9 ∧ M' = Mq) (Q1 := fun _ => True) (Q2 := fun _ _ => True) (Q3 := fun _ => True) (Q4 := fun _ _ => True) (Q5 := fun _ => True) (Q6 := fun _ _ => True) (Q7 := fun _ => True) (Q8 := fun v M' => rm_v tp n9 (pg_si (pg_si Mq 207 7 ((Mq.1 207 7) + 1)) 218 (100 + 3 * pl.length) (nI w9)) (rd_told tp nm (L9 4 0) (k9 + 1)) (k9 + 2) v M') (Q9 := fun _ => True) (Q10 := fun v M' => rm_df M (pg_si M' 218 (102 + 3 * pl.length) v) ∧ rm_rP (pg_si M' 218 (102 + 3 * pl.length) v) pl ∧ match rd_deed tp nm (L9 4 0) k9 w9 with
                  | .error f9 => rm_R (pg_si M' 218 (102 + 3 * pl.length) v) tp n9 (.error f9)
                  | .ok r9 => rm_R (pg_si M' 218 (102 + 3 * pl.length) v) tp n9 (.ok r9.1) ∧ (pg_si M' 218 (102 + 3 * pl.length) v).1 218 (100 + 3 * pl.length) = nI r9.2.1 ∧ (pg_si M' 218 (102 + 3 * pl.length) v).1 218 (101 + 3 * pl.length) = nI r9.2.2.1 ∧ (pg_si M' 218 (102 + 3 * pl.length) v).1 218 (102 + 3 * pl.length) = nI r9.2.2.2) (Q11 := fun M' => rm_dp n9 tp M (rd_done tp nm (L9 4 0) k9 pl) M') (Q12 := fun _ => True) (Q13 := fun _ => True) (Q14 := fun _ => True) (Q15 := fun _ => True) hX (fun c => absurd hR.z0 c) (fun c => absurd hR.z0 c) (fun _ => hR.vin) (fun _ c => absurd c m0) (fun _ c => absurd c m0) (fun _ _ => wh) (fun _ _ v9 Mq2 _ _ _ => v100) ?_ ?_ ?_ ?_ ?_ ?_ ?_ ?_ ?_ ?_ ?_ ?_ ?_ ?_ ?_ ?_ ?_ (fun _ _ v9 Mq2 y9 _ _ _ => by rw [y9.1, y9.2, c100]; exact tt) (fun _ _ v9 Mq2 _ _ _ _ v8 Mq3 _ => v101) (fun _ _ v9 Mq2 y9 _ _ _ v8 Mq3 _ c => absurd (y0 v9 y9.1) c) (fun _ _ v9 Mq2 y9 _ _ _ v8 Mq3 _ c => absurd (y0 v9 y9.1) c) (fun _ _ v9 Mq2 y9 _ _ _ v8 Mq3 _ c => absurd (y0 v9 y9.1) c) (fun _ _ v9 Mq2 _ _ _ _ v8 Mq3 g9 _ => by rw [c101]; exact pgs v8 Mq3 g9) (fun _ _ v9 Mq2 _ _ _ _ v8 Mq3 _ _ v7 Mq4 _ => v102) (fun _ _ v9 Mq2 _ _ _ _ v8 Mq3 _ _ v7 Mq4 g9 => by rw [c102]; exact sg _ _ rfl g9.1 g9.2.1 g9.2.2) (fun _ _ v9 Mq2 _ _ _ _ v8 Mq3 _ _ v7 Mq4 _ Mq5 g9 => goon _ Mq5 lenv g9) (fun _ _ v9 Mq2 _ _ c => absurd c n30) (fun _ _ v9 Mq2 _ _ c => absurd c n30) (fun _ _ v9 Mq2 _ _ c => absurd c n30) (fun _ _ v9 Mq2 y9 c => absurd (po v9 y9.1) c) (fun _ _ v9 Mq2 y9 c => absurd (po v9 y9.1) c) (fun _ _ v9 Mq2 y9 c => absurd (po v9 y9.1) c)
              all_goals (intro _ _ v9 Mq2 y9 _ _ c; exact absurd c (n3 v9 y9.1))
            · -- take, wash
              have rdd : rd_deed tp nm (L9 4 0) k9 w9 = rd_b (rd_told tp nm (L9 4 0) (k9 + 1)) (fun c9 => .ok (k9 + 2, w9, c9, 0)) := by unfold rd_deed; rw [if_neg w0, if_pos w3]
              have n0 : ∀ v9 : Int32, v9 = nI w9 → ¬ v9 = 0 := fun v9 e9 c => w0 ((ie0 v9 e9).mp c)
              have sgt : ∀ v9 Mq3, rm_v tp n9 (pg_si (pg_si Mq 207 7 ((Mq.1 207 7) + 1)) 218 (100 + 3 * pl.length) (nI w9)) (rd_told tp nm (L9 4 0) (k9 + 1)) (k9 + 2) v9 Mq3 → pg_Ev S Λ YX11_takeSign (d + 4) [.ref 207, .int 59] (pg_si (pg_si Mq3 218 (101 + 3 * pl.length) v9) 218 (102 + 3 * pl.length) 0) (fun q M' => q = none ∧ rm_dp n9 tp M (rd_done tp nm (L9 4 0) k9 pl) M') := by
                rintro v9 Mq3 ⟨g1, g2⟩
                refine sg _ _ rdd (((d2.trans g1.df).trans (rm_df.s18 (by omega))).trans (rm_df.s18 (by omega))) (((p2.rf g1).s18 (by omega)).s18 (by omega)) ?_
                cases ht : rd_told tp nm (L9 4 0) (k9 + 1) with
                | error e9 => rw [ht] at g2; exact (g2.s18).s18
                | ok c8 =>
                  rw [ht] at g2
                  refine ⟨(g2.1.s18).s18, ?_, ?_, ?_⟩
                  · rw [pg_si_at, pk_un (by omega), pg_si_at, pk_un (by omega), g1.1.1 218 (by decide), a2]
                  · rw [pg_si_at, pk_un (by omega), pg_si_at, pk_us]; exact g2.2
                  · rw [pg_si_at, pk_us]; rfl
              refine sX11_day_11 (Q0 := fun v M' => v = nI w9 ∧ M' = Mq) (Q1 := fun _ => True) (Q2 := fun _ _ => True) (Q3 := fun _ => True) (Q4 := fun _ _ => True) (Q5 := fun _ => True) (Q6 := fun _ _ => True) (Q7 := fun _ => True) (Q8 := fun v M' => rm_v tp n9 (pg_si (pg_si Mq 207 7 ((Mq.1 207 7) + 1)) 218 (100 + 3 * pl.length) (nI w9)) (rd_told tp nm (L9 4 0) (k9 + 1)) (k9 + 2) v M') (Q9 := fun M' => rm_dp n9 tp M (rd_done tp nm (L9 4 0) k9 pl) M') (Q10 := fun _ _ => True) (Q11 := fun _ => True) (Q12 := fun _ => True) (Q13 := fun _ => True) (Q14 := fun _ => True) (Q15 := fun _ => True) hX (fun c => absurd hR.z0 c) (fun c => absurd hR.z0 c) (fun _ => hR.vin) (fun _ c => absurd c m0) (fun _ c => absurd c m0) (fun _ _ => wh) (fun _ _ v9 Mq2 _ _ _ => v100) ?_ ?_ ?_ ?_ ?_ ?_ ?_ ?_ ?_ ?_ ?_ ?_ ?_ ?_ ?_ ?_ ?_ (fun _ _ v9 Mq2 y9 _ _ _ => by rw [y9.1, y9.2, c100]; exact tt) (fun _ _ v9 Mq2 _ _ _ _ v8 Mq3 _ => v101) (fun _ _ v9 Mq2 _ _ _ _ v8 Mq3 _ _ => v102) (fun _ _ v9 Mq2 _ _ _ _ v8 Mq3 g9 _ => by rw [c101, c102]; exact sgt v8 Mq3 g9) (fun _ _ v9 Mq2 _ _ _ _ v8 Mq3 _ _ Mq4 g9 => goon _ Mq4 lenv g9) (fun _ _ v9 Mq2 y9 _ _ _ v8 Mq3 _ c => absurd c (n0 v9 y9.1)) (fun _ _ v9 Mq2 y9 _ _ _ v8 Mq3 _ c => absurd c (n0 v9 y9.1)) (fun _ _ v9 Mq2 y9 _ _ _ v8 Mq3 _ c => absurd c (n0 v9 y9.1)) (fun _ _ v9 Mq2 y9 _ _ _ v8 Mq3 _ c => absurd c (n0 v9 y9.1)) (fun _ _ v9 Mq2 _ _ c => absurd c n30) (fun _ _ v9 Mq2 _ _ c => absurd c n30) (fun _ _ v9 Mq2 _ _ c => absurd c n30) (fun _ _ v9 Mq2 y9 c => absurd (po v9 y9.1) c) (fun _ _ v9 Mq2 y9 c => absurd (po v9 y9.1) c) (fun _ _ v9 Mq2 y9 c => absurd (po v9 y9.1) c)
              all_goals (intro _ _ v9 Mq2 y9 _ _ c; exact absurd c (n3 v9 y9.1))
          · have y3 : ∀ v9 : Int32, v9 = nI w9 → (3 : Int32) ≤ v9 := fun v9 e9 => (i3 v9 e9).mpr (by omega)
            have n0 : ∀ v9 : Int32, v9 = nI w9 → ¬ v9 = 0 := fun v9 e9 c => by have := (ie0 v9 e9).mp c; omega
            by_cases w33 : w9 = 3
            · -- buy
              have rdd : rd_deed tp nm (L9 4 0) k9 w9 = rd_b (rd_num tp 1 9 (k9 + 1)) (fun v9 => .ok (k9 + 2, 3, v9, 0)) := by unfold rd_deed; rw [if_neg (by omega), if_neg w3, if_pos w33]
              have e3 : ∀ v9 : Int32, v9 = nI w9 → v9 = 3 := fun v9 e9 => (ie3 v9 e9).mpr w33
              have tt : pg_Ev S Λ YX11_takeNumber (d + 4) [.ref 207, .int 1, .int 9] (pg_si (pg_si Mq 207 7 ((Mq.1 207 7) + 1)) 218 (100 + 3 * pl.length) (nI w9)) (fun r M' => ∃ v, r = some (.int v) ∧ rm_v tp n9 (pg_si (pg_si Mq 207 7 ((Mq.1 207 7) + 1)) 218 (100 + 3 * pl.length) (nI w9)) (rd_num tp 1 9 (k9 + 1)) (k9 + 2) v M') := pg_Ev.mono (by omega) (rm_takeNumber (S := S) (d := d) (lo := 1) (hi := 9) (by omega) (by omega) hX hk r2)
              have sgt : ∀ v9 Mq3, rm_v tp n9 (pg_si (pg_si Mq 207 7 ((Mq.1 207 7) + 1)) 218 (100 + 3 * pl.length) (nI w9)) (rd_num tp 1 9 (k9 + 1)) (k9 + 2) v9 Mq3 → pg_Ev S Λ YX11_takeSign (d + 4) [.ref 207, .int 59] (pg_si (pg_si Mq3 218 (101 + 3 * pl.length) v9) 218 (102 + 3 * pl.length) 0) (fun q M' => q = none ∧ rm_dp n9 tp M (rd_done tp nm (L9 4 0) k9 pl) M') := by
                rintro v9 Mq3 ⟨g1, g2⟩
                refine sg _ _ rdd (((d2.trans g1.df).trans (rm_df.s18 (by omega))).trans (rm_df.s18 (by omega))) (((p2.rf g1).s18 (by omega)).s18 (by omega)) ?_
                cases ht : rd_num tp 1 9 (k9 + 1) with
                | error e9 => rw [ht] at g2; exact (g2.s18).s18
                | ok c8 =>
                  rw [ht] at g2
                  refine ⟨(g2.1.s18).s18, ?_, ?_, ?_⟩
                  · rw [pg_si_at, pk_un (by omega), pg_si_at, pk_un (by omega), g1.1.1 218 (by decide), a2, w33]
                  · rw [pg_si_at, pk_un (by omega), pg_si_at, pk_us]; exact g2.2
                  · rw [pg_si_at, pk_us]; rfl
              exact sX11_day_11 (Q0 := fun v M' => v = nI w9 ∧ M' = Mq) (Q1 := fun _ => True) (Q2 := fun _ _ => True) (Q3 := fun _ => True) (Q4 := fun v M' => rm_v tp n9 (pg_si (pg_si Mq 207 7 ((Mq.1 207 7) + 1)) 218 (100 + 3 * pl.length) (nI w9)) (rd_num tp 1 9 (k9 + 1)) (k9 + 2) v M') (Q5 := fun M' => rm_dp n9 tp M (rd_done tp nm (L9 4 0) k9 pl) M') (Q6 := fun _ _ => True) (Q7 := fun _ => True) (Q8 := fun _ _ => True) (Q9 := fun _ => True) (Q10 := fun _ _ => True) (Q11 := fun _ => True) (Q12 := fun _ => True) (Q13 := fun _ => True) (Q14 := fun _ => True) (Q15 := fun _ => True) hX (fun c => absurd hR.z0 c) (fun c => absurd hR.z0 c) (fun _ => hR.vin) (fun _ c => absurd c m0) (fun _ c => absurd c m0) (fun _ _ => wh) (fun _ _ v9 Mq2 _ _ _ => v100) (fun _ _ v9 Mq2 y9 _ _ _ c => absurd (e3 v9 y9.1) c) (fun _ _ v9 Mq2 y9 _ _ _ c => absurd (e3 v9 y9.1) c) (fun _ _ v9 Mq2 y9 _ _ _ c => absurd (e3 v9 y9.1) c) (fun _ _ v9 Mq2 y9 _ _ _ c => absurd (e3 v9 y9.1) c) (fun _ _ v9 Mq2 y9 _ _ _ c => absurd (e3 v9 y9.1) c) (fun _ _ v9 Mq2 y9 _ _ _ c => absurd (e3 v9 y9.1) c) (fun _ _ v9 Mq2 y9 _ _ _ c => absurd (e3 v9 y9.1) c) (fun _ _ v9 Mq2 y9 _ _ _ c => absurd (e3 v9 y9.1) c) (fun _ _ v9 Mq2 y9 _ _ _ _ => by rw [y9.1, y9.2, c100]; exact tt) (fun _ _ v9 Mq2 _ _ _ _ _ v8 Mq3 _ => v101) (fun _ _ v9 Mq2 _ _ _ _ _ v8 Mq3 _ _ => v102) (fun _ _ v9 Mq2 _ _ _ _ _ v8 Mq3 g9 _ => by rw [c101, c102]; exact sgt v8 Mq3 g9) (fun _ _ v9 Mq2 _ _ _ _ _ v8 Mq3 _ _ Mq4 g9 => goon _ Mq4 lenv g9) (fun _ _ v9 Mq2 y9 _ _ _ _ v8 Mq3 _ c => absurd c (n0 v9 y9.1)) (fun _ _ v9 Mq2 y9 _ _ _ _ v8 Mq3 _ c => absurd c (n0 v9 y9.1)) (fun _ _ v9 Mq2 y9 _ _ _ _ v8 Mq3 _ c => absurd c (n0 v9 y9.1)) (fun _ _ v9 Mq2 y9 _ _ _ _ v8 Mq3 _ c => absurd c (n0 v9 y9.1)) (fun _ _ v9 Mq2 y9 _ _ c => absurd (y3 v9 y9.1) c) (fun _ _ v9 Mq2 y9 _ _ c => absurd (y3 v9 y9.1) c) (fun _ _ v9 Mq2 y9 _ _ c => absurd (y3 v9 y9.1) c) (fun _ _ v9 Mq2 y9 _ _ c => absurd (y3 v9 y9.1) c) (fun _ _ v9 Mq2 y9 _ _ c => absurd (y3 v9 y9.1) c) (fun _ _ v9 Mq2 y9 _ _ c => absurd (y3 v9 y9.1) c) (fun _ _ v9 Mq2 y9 _ _ c => absurd (y3 v9 y9.1) c) (fun _ _ v9 Mq2 y9 _ _ c => absurd (y3 v9 y9.1) c) (fun _ _ v9 Mq2 y9 _ _ c => absurd (y3 v9 y9.1) c) (fun _ _ v9 Mq2 _ _ c => absurd c n30) (fun _ _ v9 Mq2 _ _ c => absurd c n30) (fun _ _ v9 Mq2 _ _ c => absurd c n30) (fun _ _ v9 Mq2 y9 c => absurd (po v9 y9.1) c) (fun _ _ v9 Mq2 y9 c => absurd (po v9 y9.1) c) (fun _ _ v9 Mq2 y9 c => absurd (po v9 y9.1) c)
            · -- hour
              have w4 : w9 = 4 := by omega
              have rdd : rd_deed tp nm (L9 4 0) k9 w9 = .ok (k9 + 1, 4, 0, 0) := by unfold rd_deed; rw [if_neg (by omega), if_neg w3, if_neg w33]
              have ne3 : ∀ v9 : Int32, v9 = nI w9 → ¬ v9 = 3 := fun v9 e9 c => w33 ((ie3 v9 e9).mp c)
              have sgt : ∀ Nq1, Nq1 = pg_si (pg_si (pg_si Mq 207 7 ((Mq.1 207 7) + 1)) 218 (100 + 3 * pl.length) (nI w9)) 218 (101 + 3 * pl.length) 0 → pg_Ev S Λ YX11_takeSign (d + 4) [.ref 207, .int 59] (pg_si Nq1 218 (102 + 3 * pl.length) 0) (fun q M' => q = none ∧ rm_dp n9 tp M (rd_done tp nm (L9 4 0) k9 pl) M') := by
                rintro Nq1 eq1
                rw [eq1]
                refine sg _ _ rdd ((d2.trans (rm_df.s18 (by omega))).trans (rm_df.s18 (by omega))) ((p2.s18 (by omega)).s18 (by omega)) ⟨(r2.s18).s18, ?_, ?_, ?_⟩
                · rw [pg_si_at, pk_un (by omega), pg_si_at, pk_un (by omega), a2, w4]
                · rw [pg_si_at, pk_un (by omega), pg_si_at, pk_us]; rfl
                · rw [pg_si_at, pk_us]; rfl
              exact sX11_day_11 (Q0 := fun v M' => v = nI w9 ∧ M' = Mq) (Q1 := fun M' => rm_dp n9 tp M (rd_done tp nm (L9 4 0) k9 pl) M') (Q2 := fun _ _ => True) (Q3 := fun _ => True) (Q4 := fun _ _ => True) (Q5 := fun _ => True) (Q6 := fun _ _ => True) (Q7 := fun _ => True) (Q8 := fun _ _ => True) (Q9 := fun _ => True) (Q10 := fun _ _ => True) (Q11 := fun _ => True) (Q12 := fun _ => True) (Q13 := fun _ => True) (Q14 := fun _ => True) (Q15 := fun _ => True) hX (fun c => absurd hR.z0 c) (fun c => absurd hR.z0 c) (fun _ => hR.vin) (fun _ c => absurd c m0) (fun _ c => absurd c m0) (fun _ _ => wh) (fun _ _ v9 Mq2 _ _ _ => v100) (fun _ _ v9 Mq2 _ _ _ _ _ => v101) (fun _ _ v9 Mq2 _ _ _ _ _ Nq1 _ _ => v102) (fun _ _ v9 Mq2 y9 _ _ _ _ Nq1 eq1 _ => by rw [c102]; exact sgt Nq1 (by rw [eq1, y9.1, y9.2, c100, c101])) (fun _ _ v9 Mq2 _ _ _ _ _ Nq1 _ _ Mq3 g9 => goon _ Mq3 lenv g9) (fun _ _ v9 Mq2 y9 _ _ _ _ Nq1 _ c => absurd c (n0 v9 y9.1)) (fun _ _ v9 Mq2 y9 _ _ _ _ Nq1 _ c => absurd c (n0 v9 y9.1)) (fun _ _ v9 Mq2 y9 _ _ _ _ Nq1 _ c => absurd c (n0 v9 y9.1)) (fun _ _ v9 Mq2 y9 _ _ _ _ Nq1 _ c => absurd c (n0 v9 y9.1)) (fun _ _ v9 Mq2 y9 _ _ _ c => absurd c (ne3 v9 y9.1)) (fun _ _ v9 Mq2 y9 _ _ _ c => absurd c (ne3 v9 y9.1)) (fun _ _ v9 Mq2 y9 _ _ _ c => absurd c (ne3 v9 y9.1)) (fun _ _ v9 Mq2 y9 _ _ _ c => absurd c (ne3 v9 y9.1)) (fun _ _ v9 Mq2 y9 _ _ _ c => absurd c (ne3 v9 y9.1)) (fun _ _ v9 Mq2 y9 _ _ _ c => absurd c (ne3 v9 y9.1)) (fun _ _ v9 Mq2 y9 _ _ _ c => absurd c (ne3 v9 y9.1)) (fun _ _ v9 Mq2 y9 _ _ _ c => absurd c (ne3 v9 y9.1)) (fun _ _ v9 Mq2 y9 _ _ _ c => absurd c (ne3 v9 y9.1)) (fun _ _ v9 Mq2 y9 _ _ c => absurd (y3 v9 y9.1) c) (fun _ _ v9 Mq2 y9 _ _ c => absurd (y3 v9 y9.1) c) (fun _ _ v9 Mq2 y9 _ _ c => absurd (y3 v9 y9.1) c) (fun _ _ v9 Mq2 y9 _ _ c => absurd (y3 v9 y9.1) c) (fun _ _ v9 Mq2 y9 _ _ c => absurd (y3 v9 y9.1) c) (fun _ _ v9 Mq2 y9 _ _ c => absurd (y3 v9 y9.1) c) (fun _ _ v9 Mq2 y9 _ _ c => absurd (y3 v9 y9.1) c) (fun _ _ v9 Mq2 y9 _ _ c => absurd (y3 v9 y9.1) c) (fun _ _ v9 Mq2 y9 _ _ c => absurd (y3 v9 y9.1) c) (fun _ _ v9 Mq2 _ _ c => absurd c n30) (fun _ _ v9 Mq2 _ _ c => absurd c n30) (fun _ _ v9 Mq2 _ _ c => absurd c n30) (fun _ _ v9 Mq2 y9 c => absurd (po v9 y9.1) c) (fun _ _ v9 Mq2 y9 c => absurd (po v9 y9.1) c) (fun _ _ v9 Mq2 y9 c => absurd (po v9 y9.1) c)
      · -- no deed
        have hd : rd_done tp nm (L9 4 0) k9 pl = .error (1 + 16 * tk_place tp k9) := by
          unfold rd_done
          cases hw : tk_wd (tk_tok tp k9) with
          | none => rfl
          | some j9 =>
            show (if 11 ≤ j9 ∧ j9 ≤ 15 then _ else rd_e tp 1 k9) = _
            rw [if_neg (fun c => cj ⟨j9 - 11, by omega, by rw [hw, show 11 + (j9 - 11) = j9 by omega]⟩)]; rfl
        have ehe : tk_here tp 11 5 (.ok k9) = -1 := by
          rw [hh9]
          cases hw : tk_wd (tk_tok tp k9) with
          | none => rfl
          | some j9 =>
            show (if 11 ≤ j9 ∧ j9 < 11 + 5 then nI (j9 - 11) else -1) = _
            rw [if_neg (fun c => cj ⟨j9 - 11, by omega, by rw [hw, show 11 + (j9 - 11) = j9 by omega]⟩)]
        rw [ehe] at wh
        have w1 := rm_wrong (S := S) (Λ := Λ) (d := d + 4) (m9 := 1) (by omega) (by omega) hX hk hR
        refine sX11_day_11 (Q0 := fun v M' => v = -1 ∧ M' = Mq) (Q1 := fun _ => True) (Q2 := fun _ _ => True) (Q3 := fun _ => True) (Q4 := fun _ _ => True) (Q5 := fun _ => True) (Q6 := fun _ _ => True) (Q7 := fun _ => True) (Q8 := fun _ _ => True) (Q9 := fun _ => True) (Q10 := fun _ _ => True) (Q11 := fun _ => True) (Q12 := fun _ => True) (Q13 := fun _ => True) (Q14 := fun M' => rm_R M' tp n9 (.error (1 + 16 * tk_place tp k9)) ∧ rm_rf Mq M' ∧ M'.1 207 7 = Mq.1 207 7) (Q15 := fun M' => rm_dp n9 tp M (rd_done tp nm (L9 4 0) k9 pl) M') hX (fun c => absurd hR.z0 c) (fun c => absurd hR.z0 c) (fun _ => hR.vin) (fun _ c => absurd c m0) (fun _ c => absurd c m0) (fun _ _ => wh) ?_ ?_ ?_ ?_ ?_ ?_ ?_ ?_ ?_ ?_ ?_ ?_ ?_ ?_ ?_ ?_ ?_ ?_ ?_ ?_ ?_ ?_ ?_ ?_ ?_ ?_ ?_ ?_ ?_ ?_ (fun _ _ v9 Mq2 y9 _ => by rw [y9.2]; exact w1) (fun _ _ v9 Mq2 _ _ Mq3 y9 => sge 1 Mq3 hd y9.1 y9.2.1) (fun _ _ v9 Mq2 _ _ Mq3 _ Mq4 g9 => goon _ Mq4 (fun y9 hy => by rw [hd] at hy; cases hy) g9)
        all_goals (intro _ _ v9 Mq2 y9 c; rw [y9.1] at c; exact absurd c (by decide))
end PGR
section PGP
variable {S : pg_S} {Λ : pg_L} {d h : Nat} {M : pg_M} {G : sp_G}
theorem rm_day (hX : pg_isX11 Λ) (hg : rm_G M G) (hk : sp_okG G h) : pg_Ev S Λ YX11_day (d + 5) [.ref 207] M (fun r M' => ∃ v, r = some (.int v) ∧ (v = (sp_qday G).1 ∧ rm_G M' (sp_qday G).2 ∧ pg_fr rm_X M M')) := by
  have hg0 := hg.th
  have ht := hk.tk
  have ct := pg_Ev.mono (d' := d + 4) (by omega) (rm_cutAll (S := S) (Λ := Λ) (d := d) (M := pg_si M 207 0 0) hX ht hg0.t hg0.W)
  have ho : rd_nok (G.L 4 0) G.nm := by
    obtain ⟨X9, o1, o2, o3⟩ := hk.rd
    have := o1.nok
    rw [o2, o3] at this
    exact this
  refine oX11_day (sX11_day_0 (Q0 := fun M' => ∃ n9, rm_R M' G.tp n9 (.ok 0) ∧ M'.1 207 2 = 0 ∧ pg_fr [207, 209, 210, 211] (pg_si M 207 0 0) M' ∧ ∀ j9, j9 ≠ 2 → j9 ≠ 3 → j9 ≠ 7 → j9 ≠ 8 → M'.1 207 j9 = (pg_si M 207 0 0).1 207 j9) hX ct ?_)
  rintro Mq1 ⟨n9, g1, g2, g3, g4⟩
  have f1 : pg_fr [207, 209, 210, 211] M Mq1 := (pg_fr.si (by simp)).trans g3
  have q7 : ∀ j9, j9 ∈ [16, 23] → Mq1.1 207 j9 = M.1 207 j9 := fun j9 hj => by
    simp at hj
    rw [g4 j9 (by omega) (by omega) (by omega) (by omega), pg_si_at, pk_un (by omega)]
  have hn : rm_rN Mq1 0 (G.L 4 0) G.nm := ⟨by rw [q7 16 (by simp)]; exact hg.n.1, fun c9 hc => by rw [f1.2.1 216 (by decide)]; exact hg.n.2 c9 hc⟩
  refine rm_day11 (M := Mq1) (n9 := n9) (nm := G.nm) (L9 := G.L) hX ht ho hn (G.tp.length + 1) 0 [] Mq1 (Nat.zero_le _) (by omega) ⟨by simp, fun e9 he => by simp at he⟩ g1 (fun j9 e9 hj => by simp at hj) rm_df.rfl' ?_ ?_
  · intro pl2 Mq2 hq h30 hP hf
    have eq9 : sp_qday G = (0, G.plan pl2 []) := by unfold sp_qday; rw [show rd_day G.tp G.nm (G.L 4 0) = .ok pl2 from hq]
    rw [eq9]
    refine rm_day182 hX h30 hP (fun Mq3 hp3 f3 => ?_)
    have ff : pg_fr [207, 209, 210, 211, 218] M Mq3 := ((f1.mono (by simp)).trans (hf.1.mono (by simp))).trans (f3.mono (by simp))
    have z7 : ∀ j, j ∈ [2, 16, 23] → Mq3.1 207 j = Mq1.1 207 j := fun j hj => by
      simp at hj
      rw [f3.1 207 (by decide), hf.2.1 j (by omega) (by omega)]
    have h21 := ff.1 221 (by decide)
    obtain ⟨gl, gn, gs, gf, gu, gm, gp, gt, gw⟩ := hg
    refine ⟨_, rfl, rfl, ⟨?_, ⟨by rw [z7 16 (by simp), q7 16 (by simp)]; exact gn.1, fun c hc => by rw [ff.2.1 216 (by decide)]; exact gn.2 c hc⟩, gs.off (fun j a b => by rw [h21]), gf.off (fun j a b => by rw [h21]), gu.fr (by rw [z7 23 (by simp), q7 23 (by simp)]) (fun j a b => by rw [h21]), fun m hm => ⟨by rw [ff.1 222 (by decide)]; exact (gm m hm).1, fun t f q => ⟨((gm m hm).2 t f q).1.off (fun j a b => by rw [h21]), ((gm m hm).2 t f q).2.off (fun j a b => by rw [h21])⟩⟩, hp3, ⟨by rw [z7 2 (by simp), g2]; rfl, fun j c hj => by simp [sp_G.plan_tp] at hj⟩, fun k w q => by rw [ff.2.1 212 (by decide)]; exact gw k w q⟩, ff.mono (by simp [rm_X])⟩
    exact gl.keep ff (by decide) (by decide) (by decide)
  · intro e9 Mq2 hq hR hf
    have eq9 : sp_qday G = (nI e9, G.tape []) := by unfold sp_qday; rw [show rd_day G.tp G.nm (G.L 4 0) = .error e9 from hq]
    rw [eq9]
    have ff : pg_fr [207, 209, 210, 211, 218] M Mq2 := (f1.mono (by simp)).trans (hf.1.mono (by simp))
    have z7 : ∀ j, j ∈ [2, 16, 23] → Mq2.1 207 j = Mq1.1 207 j := fun j hj => by
      simp at hj
      rw [hf.2.1 j (by omega) (by omega)]
    obtain ⟨gl, gn, gs, gf, gu, gm, gp, gt, gw⟩ := hg
    have h21 := ff.1 221 (by decide)
    have hl30 := hk.p.1
    refine ⟨_, rfl, rfl, ⟨gl.keep ff (by decide) (by decide) (by decide), ⟨by rw [z7 16 (by simp), q7 16 (by simp)]; exact gn.1, fun c hc => by rw [ff.2.1 216 (by decide)]; exact gn.2 c hc⟩, gs.off (fun j a b => by rw [h21]), gf.off (fun j a b => by rw [h21]), gu.fr (by rw [z7 23 (by simp), q7 23 (by simp)]) (fun j a b => by rw [h21]), fun m hm => ⟨by rw [ff.1 222 (by decide)]; exact (gm m hm).1, fun t f q => ⟨((gm m hm).2 t f q).1.off (fun j a b => by rw [h21]), ((gm m hm).2 t f q).2.off (fun j a b => by rw [h21])⟩⟩, ?_, ⟨by rw [z7 2 (by simp), g2]; rfl, fun j c hj => by simp [sp_G.tape_tp] at hj⟩, fun k w q => by rw [ff.2.1 212 (by decide)]; exact gw k w q⟩, ff.mono (by simp [rm_X])⟩
    show rm_P Mq2 G.pl
    have e18 : ∀ j9, j9 < 100 → Mq2.1 218 j9 = M.1 218 j9 := fun j9 hj => by rw [hf.2.2 j9 hj, f1.1 218 (by decide)]
    refine ⟨by rw [e18 0 (by omega)]; exact gp.1, fun j9 e9 hj => ?_⟩
    have hl := (List.getElem?_eq_some_iff.mp hj).1
    rw [e18 _ (by omega), e18 _ (by omega), e18 _ (by omega)]
    exact gp.2 j9 e9 hj
end PGP
