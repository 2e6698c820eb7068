/-! TOKENS: the class's next -/
def tk_sc (t9 : Nat × List Nat) : Int32 := if t9.1 = 4 then nI (t9.2.getD 0 0) else nI t9.1
/-- a tape that can be read -/
def tk_ok (tp : List Nat) : Prop := tp.length ≤ 1000 ∧ ∀ (j9 c9 : Nat), tp[j9]? = some c9 → c9 < 128
theorem tk_sgx : ∀ c9, c9 < 128 → (pg_sgx (nI c9) < 0 ↔ tk_G c9 = false) := fun c9 hc => co_dec (N := 128) (P := fun c9 => (pg_sgx (nI c9) < 0 ↔ tk_G c9 = false)) (by decide +kernel) hc
theorem tk_run_pos {p : Nat → Bool} {tp : List Nat} {b9 c9 : Nat} (hc : tp[b9]? = some c9) : 0 < (tk_run p tp b9).length ↔ p c9 = true := by
  constructor
  · intro z9
    obtain ⟨e9, g1, _, g3⟩ := tk_run_in z9
    rw [Nat.add_zero, hc] at g1
    rw [Option.some.inj g1]; exact g3
  · intro z9
    rcases Nat.eq_zero_or_pos (tk_run p tp b9).length with y9 | y9
    · have := tk_run_out (p := p) (tp := tp) (b9 := b9) (c9 := c9) (by rw [y9, Nat.add_zero]; exact hc)
      rw [this] at z9; cases z9
    · exact y9
theorem tk_run_nil {p : Nat → Bool} {tp : List Nat} {b9 : Nat} (hc : tp[b9]? = none) : (tk_run p tp b9).length = 0 := by
  rcases Nat.eq_zero_or_pos (tk_run p tp b9).length with y9 | y9
  · exact y9
  · obtain ⟨e9, g1, _, g3⟩ := tk_run_in y9
    rw [Nat.add_zero, hc] at g1; cases g1
theorem tk_p_le {tp : List Nat} {b9 : Nat} (hb : b9 ≤ tp.length) : tk_p tp b9 ≤ tp.length := tk_run_le hb
theorem tk_b_le {tp : List Nat} {b9 : Nat} : tk_b tp b9 ≤ tp.length := Nat.min_le_left _ _
theorem tk_i_le {tp : List Nat} : ∀ k9, tk_i tp k9 ≤ tp.length := by
  intro k9
  cases k9 with
  | zero => exact Nat.zero_le _
  | succ k9 => exact tk_b_le
theorem tk_get {tp : List Nat} {j9 : Nat} (hj : j9 < tp.length) : ∃ c9, tp[j9]? = some c9 := ⟨_, List.getElem?_eq_getElem hj⟩
theorem tk_w_take {B9 z9 : Nat} {l9 : List Nat} {j9 c9 : Nat} (hc : l9[j9]? = some c9) : sp_w B9 ((l9.take (j9 + 1)).map (· - z9)) = B9 * sp_w B9 ((l9.take j9).map (· - z9)) + (c9 - z9) := by
  rw [List.take_add_one, hc, Option.toList_some, List.map_append]
  exact tk_w_app _ _ _
/-- the Reader holds this token -/
def rc_tok (M : pg_M) (t9 : Nat × List Nat) : Prop := M.1 1 4 = tk_sc t9 ∧ (t9.1 = 2 → M.2.1 1 6 = lN (sp_w 32 t9.2) ∧ M.1 1 7 = tk_kw t9.2) ∧ (t9.1 = 3 → M.1 1 5 = nI (t9.2.getD 0 0))
/-- what reading a token leaves as it was -/
def rc_nf (M M' : pg_M) : Prop := pg_fr [1] M M' ∧ ∀ j9, j9 ≠ 2 → j9 ≠ 3 → j9 ≠ 4 → j9 ≠ 5 → j9 ≠ 7 → M'.1 1 j9 = M.1 1 j9
theorem rc_nf.rfl' {M : pg_M} : rc_nf M M := ⟨pg_fr.rfl', fun _ _ _ _ _ _ => rfl⟩
theorem rc_nf.trans {M Mq1 Mq2 : pg_M} (g1 : rc_nf M Mq1) (g2 : rc_nf Mq1 Mq2) : rc_nf M Mq2 := ⟨g1.1.trans g2.1, fun j9 a1 a2 a3 a4 a5 => (g2.2 j9 a1 a2 a3 a4 a5).trans (g1.2 j9 a1 a2 a3 a4 a5)⟩
theorem rc_nf.si {M : pg_M} {k9 : Nat} {v : Int32} (hk : k9 = 2 ∨ k9 = 3 ∨ k9 = 4 ∨ k9 = 5 ∨ k9 = 7) : rc_nf M (pg_si M 1 k9 v) := ⟨pg_fr.si (by simp), fun j9 a1 a2 a3 a4 a5 => by rw [pg_si_at, pk_un (by omega)]⟩
theorem rc_nf.sj {M : pg_M} {k9 : Nat} {v : Int64} : rc_nf M (pg_sj M 1 k9 v) := ⟨pg_fr.sj (by simp), fun j9 a1 a2 a3 a4 a5 => rfl⟩
theorem rc_nf.t {M M' : pg_M} {tp : List Nat} (g1 : rc_nf M M') (hT : rc_T M tp) : rc_T M' tp := by
  unfold rc_T at hT ⊢
  rw [g1.2 1 (by decide) (by decide) (by decide) (by decide) (by decide), g1.1.1 2 (by decide)]
  exact hT
section PGR
variable {S : pg_S} {Λ : pg_L} {d b9 : Nat} {M : pg_M} {tp : List Nat}
theorem rc_sortOf (hX : pg_isX7 Λ) (hT : rc_T M tp) (hk : tk_ok tp) (hb : b9 ≤ tp.length) (hp : M.1 1 2 = nI (tk_p tp b9)) : pg_Ev S Λ YX7_sortOf (d + 1) [.ref 1, .int (nI (tk_ls tp b9).length), .int (nI (tk_ds tp b9).length)] M (fun r M' => ∃ v, r = some (.int v) ∧ (v = tk_sc (tk_t tp b9) ∧ M' = M)) := by
  have hle := tk_p_le hb
  have hlen := hk.1
  have l1 := tk_run_le (p := tk_L) hle
  have l2 := tk_run_le (p := tk_D) hle
  have e1 : (tk_run tk_L tp (tk_p tp b9)).length = (tk_ls tp b9).length := rfl
  have e2 : (tk_run tk_D tp (tk_p tp b9)).length = (tk_ds tp b9).length := rfl
  have hcl : (nI (tk_p tp b9)).toNatClampNeg = tk_p tp b9 := nI_clamp (by omega)
  have i0 : (M.1 1 2 < M.1 1 1) ↔ tk_p tp b9 < tp.length := by rw [hp, hT.1, nI_ltI (by omega) (by omega)]
  have z0 : ∀ n9, n9 < 2 ^ 31 → (nI n9 ≤ 0 ↔ n9 = 0) := fun n9 hn => by rw [← nI_0, nI_leI hn (by decide)]; omega
  have fin9 : ∀ {v : Int32}, v = tk_sc (tk_t tp b9) → ∃ u, some (Value.int v) = some (Value.int u) ∧ (u = tk_sc (tk_t tp b9) ∧ M = M) := fun e => ⟨_, rfl, e, rfl⟩
  have at9 : ∀ c9, tp[tk_p tp b9]? = some c9 → tk_t tp b9 = if tk_L c9 then (if (tk_ls tp b9).length ≤ 8 then (2, (tk_ls tp b9).map (· - 96)) else (1, [])) else if tk_D c9 then (if (tk_ds tp b9).length ≤ 4 then (3, [sp_w 10 ((tk_ds tp b9).map (· - 48))]) else (1, [])) else if tk_G c9 then (4, [c9]) else (1, []) := fun c9 hc => by unfold tk_t; rw [hc]
  refine oX7_sortOf (sX7_sortOf_0 hX ?_ ?_ ?_ ?_ ?_ ?_ ?_ ?_)
  · intro q1 _ _
    rw [i0] at q1
    rw [hp]; exact vp_in_nI (by omega) (by decide)
  · intro q1 q2 q3 q4
    rw [i0] at q1
    rw [z0 _ (by omega)] at q2 q3
    obtain ⟨c9, hc⟩ := tk_get q1
    have hc8 := hk.2 _ _ hc
    rw [hp, hcl, hT.2 _ _ hc, tk_sgx c9 hc8] at q4
    refine fin9 ?_
    have nL : tk_L c9 = false := ts_nt (fun y9 => by have := (tk_run_pos hc).mpr y9; omega)
    have nD : tk_D c9 = false := ts_nt (fun y9 => by have := (tk_run_pos hc).mpr y9; omega)
    rw [at9 c9 hc, nL, nD, q4]; rfl
  · intro q1 q2 q3 q4
    rw [i0] at q1
    rw [z0 _ (by omega)] at q2 q3
    obtain ⟨c9, hc⟩ := tk_get q1
    have hc8 := hk.2 _ _ hc
    rw [hp, hcl, hT.2 _ _ hc, tk_sgx c9 hc8, Bool.not_eq_false] at q4
    rw [hp, hcl, hT.2 _ _ hc]
    refine fin9 ?_
    have nL : tk_L c9 = false := ts_nt (fun y9 => by have := (tk_run_pos hc).mpr y9; omega)
    have nD : tk_D c9 = false := ts_nt (fun y9 => by have := (tk_run_pos hc).mpr y9; omega)
    rw [at9 c9 hc, nL, nD, q4]; rfl
  · intro q1 q2 q3 q4
    rw [i0] at q1
    rw [z0 _ (by omega)] at q2 q3
    rw [show (4 : Int32) = nI 4 from rfl, nI_ltI (by omega) (by omega)] at q4
    obtain ⟨c9, hc⟩ := tk_get q1
    refine fin9 ?_
    have nL : tk_L c9 = false := ts_nt (fun y9 => by have := (tk_run_pos hc).mpr y9; omega)
    have yD : tk_D c9 = true := (tk_run_pos hc).mp (by omega)
    rw [at9 c9 hc, nL, yD, if_neg (show ¬ (tk_ds tp b9).length ≤ 4 by omega)]; rfl
  · intro q1 q2 q3 q4
    rw [i0] at q1
    rw [z0 _ (by omega)] at q2 q3
    rw [show (4 : Int32) = nI 4 from rfl, nI_ltI (by omega) (by omega)] at q4
    obtain ⟨c9, hc⟩ := tk_get q1
    refine fin9 ?_
    have nL : tk_L c9 = false := ts_nt (fun y9 => by have := (tk_run_pos hc).mpr y9; omega)
    have yD : tk_D c9 = true := (tk_run_pos hc).mp (by omega)
    rw [at9 c9 hc, nL, yD, if_pos (show (tk_ds tp b9).length ≤ 4 by omega)]; rfl
  · intro q1 q2 q4
    rw [i0] at q1
    rw [z0 _ (by omega)] at q2
    rw [show (8 : Int32) = nI 8 from rfl, nI_ltI (by omega) (by omega)] at q4
    obtain ⟨c9, hc⟩ := tk_get q1
    refine fin9 ?_
    have yL : tk_L c9 = true := (tk_run_pos hc).mp (by omega)
    rw [at9 c9 hc, yL, if_neg (show ¬ (tk_ls tp b9).length ≤ 8 by omega)]; rfl
  · intro q1 q2 q4
    rw [i0] at q1
    rw [z0 _ (by omega)] at q2
    rw [show (8 : Int32) = nI 8 from rfl, nI_ltI (by omega) (by omega)] at q4
    obtain ⟨c9, hc⟩ := tk_get q1
    refine fin9 ?_
    have yL : tk_L c9 = true := (tk_run_pos hc).mp (by omega)
    rw [at9 c9 hc, yL, if_pos (show (tk_ls tp b9).length ≤ 8 by omega)]; rfl
  · intro q1
    rw [i0] at q1
    refine fin9 ?_
    unfold tk_t
    rw [List.getElem?_eq_none (by omega)]; rfl
/-- a token that was read -/
def rc_nx (M M' : pg_M) (tp : List Nat) (b9 : Nat) : Prop := rc_tok M' (tk_t tp b9) ∧ M'.1 1 2 = nI (tk_p tp b9) ∧ M'.1 1 3 = nI (tk_b tp b9) ∧ rc_nf M M'
theorem rc_next3 {mq : pg_M} {j9 : Nat} (hX : pg_isX7 Λ) (hT : rc_T M tp) (hk : tk_ok tp) (hb : b9 ≤ tp.length) (hj : j9 ≤ (tk_ds tp b9).length) (a1 : mq.1 1 2 = nI (tk_p tp b9)) (a2 : mq.2.1 1 6 = lN (sp_w 32 ((tk_ls tp b9).map (· - 96)))) (a3 : mq.1 1 5 = nI (sp_w 10 (((tk_ds tp b9).take j9).map (· - 48)))) (a4 : rc_nf M mq) : pg_At S Λ YX7_next (d + 2 + 1) 142 [(0, .ref 1), (1, .int (nI (tk_ls tp b9).length)), (2, .int (nI j9)), (3, .int (nI (tk_p tp b9 + j9)))] [] mq (fun r M' => r = none ∧ rc_nx M M' tp b9) := by
  have hle := tk_p_le hb
  have hlen := hk.1
  have l1 : tk_p tp b9 + (tk_ls tp b9).length ≤ tp.length := tk_run_le hle
  have l2 : tk_p tp b9 + (tk_ds tp b9).length ≤ tp.length := tk_run_le hle
  have z0 : ∀ n9, n9 < 2 ^ 31 → (nI n9 ≤ 0 ↔ n9 = 0) := fun n9 hn => by rw [← nI_0, nI_leI hn (by decide)]; omega
  refine pg_loop (fun i9 (nq : pg_M) => pg_At S Λ YX7_next (d + 2 + 1) 142 [(0, .ref 1), (1, .int (nI (tk_ls tp b9).length)), (2, .int (nI i9)), (3, .int (nI (tk_p tp b9 + i9)))] [] nq _) (fun i9 nq => nq.1 1 2 = nI (tk_p tp b9) ∧ nq.2.1 1 6 = lN (sp_w 32 ((tk_ls tp b9).map (· - 96))) ∧ nq.1 1 5 = nI (sp_w 10 (((tk_ds tp b9).take i9).map (· - 48))) ∧ rc_nf M nq) (tk_ds tp b9).length ?_ ?_ j9 mq hj ⟨a1, a2, a3, a4⟩
  · rintro nq ⟨c1, c2, c3, c4⟩
    have hTn := c4.t hT
    rw [List.take_length] at c3
    have eB : pg_min (nq.1 1 1) ((nq.1 1 2) + (pg_max 1 (pg_max (nI (tk_ls tp b9).length) (nI (tk_ds tp b9).length)))) = nI (tk_b tp b9) := by
      rw [hTn.1, c1, pg_max_nI (by omega) (by omega), show (1 : Int32) = nI 1 from rfl, pg_max_nI (by omega) (by omega), nI_add, pg_min_nI (by omega) (by omega)]; rfl
    have done9 : ∀ w9 x9, (¬ (tk_ls tp b9).length = 0 → w9 = tk_kw ((tk_ls tp b9).map (· - 96))) → x9 = tk_sc (tk_t tp b9) → rc_nx M (pg_si (pg_si (pg_si nq 1 3 (nI (tk_b tp b9))) 1 7 w9) 1 4 x9) tp b9 := fun w9 x9 g1 g2 => by
      refine ⟨⟨by rw [pg_si_at, pk_us, g2], fun k9 => ⟨?_, ?_⟩, fun k9 => ?_⟩, ?_, ?_, ((c4.trans (rc_nf.si (by omega))).trans (rc_nf.si (by omega))).trans (rc_nf.si (by omega))⟩
      · unfold tk_t at k9 ⊢
        cases hc : tp[tk_p tp b9]? with
        | none => rw [hc] at k9; exact absurd k9 (by simp)
        | some c9 =>
          rw [hc] at k9
          simp only at k9 ⊢
          by_cases y1 : tk_L c9 = true
          · rw [if_pos y1] at k9 ⊢
            by_cases y2 : (tk_ls tp b9).length ≤ 8
            · rw [if_pos y2]; exact c2
            · rw [if_neg y2] at k9; exact absurd k9 (by simp)
          · rw [if_neg y1] at k9
            split at k9
            · split at k9 <;> exact absurd k9 (by simp)
            · split at k9 <;> exact absurd k9 (by simp)
      · rw [pg_si_at, pk_un (by decide), pg_si_at, pk_us]
        unfold tk_t at k9 ⊢
        cases hc : tp[tk_p tp b9]? with
        | none => rw [hc] at k9; exact absurd k9 (by simp)
        | some c9 =>
          rw [hc] at k9
          simp only at k9 ⊢
          by_cases y1 : tk_L c9 = true
          · have hpos := (tk_run_pos (p := tk_L) hc).mpr y1
            have hpos2 : ¬ (tk_ls tp b9).length = 0 := Nat.pos_iff_ne_zero.mp hpos
            rw [if_pos y1] at k9 ⊢
            by_cases y2 : (tk_ls tp b9).length ≤ 8
            · rw [if_pos y2]; exact g1 hpos2
            · rw [if_neg y2] at k9; exact absurd k9 (by simp)
          · rw [if_neg y1] at k9
            split at k9
            · split at k9 <;> exact absurd k9 (by simp)
            · split at k9 <;> exact absurd k9 (by simp)
      · rw [pg_si_at, pk_un (by decide), pg_si_at, pk_un (by decide), pg_si_at, pk_un (by decide), c3]
        unfold tk_t at k9 ⊢
        cases hc : tp[tk_p tp b9]? with
        | none => rw [hc] at k9; exact absurd k9 (by simp)
        | some c9 =>
          rw [hc] at k9
          simp only at k9 ⊢
          split at k9
          · split at k9 <;> exact absurd k9 (by simp)
          · rename_i y1
            rw [if_neg y1]
            by_cases y2 : tk_D c9 = true
            · rw [if_pos y2] at k9 ⊢
              by_cases y3 : (tk_ds tp b9).length ≤ 4
              · rw [if_pos y3]; rfl
              · rw [if_neg y3] at k9; exact absurd k9 (by simp)
            · rw [if_neg y2] at k9
              split at k9 <;> exact absurd k9 (by simp)
      · rw [pg_si_at, pk_un (by decide), pg_si_at, pk_un (by decide), pg_si_at, pk_un (by decide)]; exact c1
      · rw [pg_si_at, pk_un (by decide), pg_si_at, pk_un (by decide), pg_si_at, pk_us]
    have so9 : ∀ w9, pg_Ev S Λ YX7_sortOf (d + 2) [.ref 1, .int (nI (tk_ls tp b9).length), .int (nI (tk_ds tp b9).length)] (pg_si (pg_si nq 1 3 (nI (tk_b tp b9))) 1 7 w9) (fun r M' => ∃ v, r = some (.int v) ∧ (v = tk_sc (tk_t tp b9) ∧ M' = pg_si (pg_si nq 1 3 (nI (tk_b tp b9))) 1 7 w9)) := fun w9 =>
      rc_sortOf hX (((c4.trans (rc_nf.si (by omega))).trans (rc_nf.si (by omega))).t hT) hk hb (by rw [pg_si_at, pk_un (by decide), pg_si_at, pk_un (by decide)]; exact c1)
    have kn9 : pg_Ev S Λ YX7_knownWord (d + 2) [.long ((pg_si nq 1 3 (nI (tk_b tp b9))).2.1 1 6)] (pg_si nq 1 3 (nI (tk_b tp b9))) (fun r M' => ∃ v, r = some (.int v) ∧ (v = tk_kw ((tk_ls tp b9).map (· - 96)) ∧ M' = pg_si nq 1 3 (nI (tk_b tp b9)))) := by
      have := rc_knownWord (S := S) (Λ := Λ) (d := d + 1) (M := pg_si nq 1 3 (nI (tk_b tp b9))) (y9 := lN (sp_w 32 ((tk_ls tp b9).map (· - 96))))
      have e6 : (pg_si nq 1 3 (nI (tk_b tp b9))).2.1 1 6 = lN (sp_w 32 ((tk_ls tp b9).map (· - 96))) := c2
      rw [e6]; exact this
    have hdg : ¬ nq.1 1 1 ≤ nI (tk_p tp b9 + (tk_ds tp b9).length) → ∃ c9, tp[tk_p tp b9 + (tk_ds tp b9).length]? = some c9 := fun q9 => by
      rw [hTn.1, nI_leI (by omega) (by omega)] at q9
      exact tk_get (by omega)
    refine sX7_next_142 (Q0 := fun v M' => v = tk_sc (tk_t tp b9) ∧ M' = pg_si (pg_si nq 1 3 (nI (tk_b tp b9))) 1 7 (-1)) (Q1 := fun v M' => v = tk_kw ((tk_ls tp b9).map (· - 96)) ∧ M' = pg_si nq 1 3 (nI (tk_b tp b9))) (Q2 := fun v M' => v = tk_sc (tk_t tp b9) ∧ M' = pg_si (pg_si nq 1 3 (nI (tk_b tp b9))) 1 7 (tk_kw ((tk_ls tp b9).map (· - 96)))) (Q3 := fun v M' => v = 0 ∧ M' = nq) (Q4 := fun v M' => v = tk_sc (tk_t tp b9) ∧ M' = pg_si (pg_si nq 1 3 (nI (tk_b tp b9))) 1 7 (-1)) (Q5 := fun v M' => v = tk_kw ((tk_ls tp b9).map (· - 96)) ∧ M' = pg_si nq 1 3 (nI (tk_b tp b9))) (Q6 := fun v M' => v = tk_sc (tk_t tp b9) ∧ M' = pg_si (pg_si nq 1 3 (nI (tk_b tp b9))) 1 7 (tk_kw ((tk_ls tp b9).map (· - 96)))) hX ?_ ?_ ?_ ?_ ?_ ?_ ?_ ?_ ?_ ?_ ?_ ?_ ?_
    · intro _ _; rw [eB]; exact so9 _
    · rintro _ q2 x9 Mq1 ⟨g1, g2⟩
      rw [z0 _ (by omega)] at q2
      rw [g2]; exact ⟨rfl, done9 _ _ (fun y9 => absurd q2 y9) g1⟩
    · intro _ _; rw [eB]; exact kn9
    · rintro _ _ x9 Mq1 ⟨g1, g2⟩; rw [g1, g2]; exact so9 _
    · rintro _ _ x9 Mq1 ⟨g1, g2⟩ x8 Mq2 ⟨g3, g4⟩
      rw [g4]; exact ⟨rfl, done9 _ _ (fun _ => rfl) g3⟩
    · intro q9
      rw [hTn.1, nI_leI (by omega) (by omega)] at q9
      exact vp_in_nI (by omega) (by decide)
    · intro q9
      obtain ⟨c9, hc⟩ := hdg q9
      rw [nI_clamp (by omega), hTn.2 _ _ hc]
      have hf := tk_run_out (p := tk_D) hc
      refine pg_Ev.imp ?_ (rc_isDigit (by have := hk.2 _ _ hc; omega))
      rintro r9 M9 ⟨v9, g1, g2, g3⟩
      exact ⟨v9, g1, by rw [g2, hf]; rfl, g3⟩
    · rintro _ x9 Mq1 ⟨g1, g2⟩ _ _; rw [g2, eB]; exact so9 _
    · rintro _ x9 Mq1 ⟨g1, g2⟩ _ q2 x8 Mq2 ⟨g3, g4⟩
      rw [z0 _ (by omega)] at q2
      rw [g4]; exact ⟨rfl, done9 _ _ (fun y9 => absurd q2 y9) g3⟩
    · rintro _ x9 Mq1 ⟨g1, g2⟩ _ _; rw [g2, eB]; exact kn9
    · rintro _ x9 Mq1 ⟨g1, g2⟩ _ _ x8 Mq2 ⟨g3, g4⟩; rw [g3, g4]; exact so9 _
    · rintro _ x9 Mq1 ⟨g1, g2⟩ _ _ x8 Mq2 ⟨g3, g4⟩ x7 Mq3 ⟨g5, g6⟩
      rw [g6]; exact ⟨rfl, done9 _ _ (fun _ => rfl) g5⟩
    · rintro _ x9 Mq1 ⟨g1, g2⟩ q9; exact absurd g1 q9
  · rintro i9 nq hi ⟨c1, c2, c3, c4⟩ ihq
    have hTn := c4.t hT
    obtain ⟨c9, hc, hc2, hc3⟩ := tk_run_in (p := tk_D) (tp := tp) (b9 := tk_p tp b9) hi
    have hc2 : (tk_ds tp b9)[i9]? = some c9 := hc2
    have hc8 := hk.2 _ _ hc
    have cq : ¬ nq.1 1 1 ≤ nI (tk_p tp b9 + i9) := by rw [hTn.1]; exact nI_ge (by omega) (by omega)
    have hcl : (nI (tk_p tp b9 + i9)).toNatClampNeg = tk_p tp b9 + i9 := nI_clamp (by omega)
    refine sX7_next_142 (Q0 := fun _ _ => True) (Q1 := fun _ _ => True) (Q2 := fun _ _ => True) (Q3 := fun v M' => v = 1 ∧ M' = nq) (Q4 := fun _ _ => True) (Q5 := fun _ _ => True) (Q6 := fun _ _ => True) hX (fun c => absurd c cq) (fun c => absurd c cq) (fun c => absurd c cq) (fun c => absurd c cq) (fun c => absurd c cq) (fun _ => vp_in_nI (by omega) (by decide)) (fun _ => ?_) ?_ ?_ ?_ ?_ ?_ ?_
    · rw [hcl, hTn.2 _ _ hc]
      refine pg_Ev.imp ?_ (rc_isDigit (by omega))
      rintro r9 M9 ⟨v9, g1, g2, g3⟩
      exact ⟨v9, g1, by rw [g2, hc3]; rfl, g3⟩
    · rintro _ x9 Mq1 ⟨g1, g2⟩ q9; rw [g1] at q9; exact absurd q9 (by decide)
    · rintro _ x9 Mq1 ⟨g1, g2⟩ q9; rw [g1] at q9; exact absurd q9 (by decide)
    · rintro _ x9 Mq1 ⟨g1, g2⟩ q9; rw [g1] at q9; exact absurd q9 (by decide)
    · rintro _ x9 Mq1 ⟨g1, g2⟩ q9; rw [g1] at q9; exact absurd q9 (by decide)
    · rintro _ x9 Mq1 ⟨g1, g2⟩ q9; rw [g1] at q9; exact absurd q9 (by decide)
    · rintro _ x9 Mq1 ⟨g1, g2⟩ _
      rw [g2, hcl, hTn.2 _ _ hc, c3, nI_1, nI_1]
      have h48 : 48 ≤ c9 := by unfold tk_D at hc3; simp only [Bool.and_eq_true, decide_eq_true_eq] at hc3; exact hc3.1
      have e48 : nI c9 - 48 = nI (c9 - 48) := by
        rw [show (48 : Int32) = nI 48 from rfl]
        exact pk_sub h48
      rw [e48, show (10 : Int32) = nI 10 from rfl, pk_mul, nI_add, ← tk_w_take hc2]
      refine ihq _ ⟨?_, c2, by rw [pg_si_at, pk_us], c4.trans (rc_nf.si (by omega))⟩
      rw [pg_si_at, pk_un (by decide)]; exact c1
end PGR
