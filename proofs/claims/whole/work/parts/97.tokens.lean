/-! TOKENS: the class's next, whole; the Reader's state -/
section PGR
variable {S : pg_S} {Λ : pg_L} {d b9 : Nat} {M : pg_M} {tp : List Nat}
theorem rc_next2 {mq : pg_M} (hX : pg_isX7 Λ) (hT : rc_T M tp) (hk : tk_ok tp) (hb : b9 ≤ tp.length) (a1 : mq.1 1 2 = nI (tk_p tp b9)) (a2 : mq.2.1 1 6 = lN 0) (a4 : rc_nf M mq) : pg_At S Λ YX7_next (d + 2 + 1) 76 [(0, .ref 1), (1, .int (nI 0)), (2, .int (nI (tk_p tp b9 + 0)))] [] mq (fun r M' => r = none ∧ rc_nx M M' tp b9) := by
  have hle := tk_p_le hb
  have hlen := hk.1
  have l1 : tk_p tp b9 + (tk_ls tp b9).length ≤ tp.length := tk_run_le hle
  refine pg_loop (fun i9 (nq : pg_M) => pg_At S Λ YX7_next (d + 2 + 1) 76 [(0, .ref 1), (1, .int (nI i9)), (2, .int (nI (tk_p tp b9 + i9)))] [] nq _) (fun i9 nq => nq.1 1 2 = nI (tk_p tp b9) ∧ nq.2.1 1 6 = lN (sp_w 32 (((tk_ls tp b9).take i9).map (· - 96))) ∧ rc_nf M nq) (tk_ls tp b9).length ?_ ?_ 0 mq (Nat.zero_le _) ⟨a1, a2, a4⟩
  · rintro nq ⟨c1, c2, c4⟩
    have hTn := c4.t hT
    rw [List.take_length] at c2
    have go9 : pg_At S Λ YX7_next (d + 2 + 1) 142 [(0, .ref 1), (1, .int (nI (tk_ls tp b9).length)), (2, .int 0), (3, .int ((pg_si nq 1 5 0).1 1 2))] [] (pg_si nq 1 5 0) (fun r M' => r = none ∧ rc_nx M M' tp b9) := by
      have e2 : (pg_si nq 1 5 0).1 1 2 = nI (tk_p tp b9 + 0) := by rw [pg_si_at, pk_un (by decide)]; exact c1
      rw [e2]
      exact rc_next3 (j9 := 0) hX hT hk hb (Nat.zero_le _) e2 c2 (by rw [pg_si_at, pk_us]; rfl) (c4.trans (rc_nf.si (by omega)))
    refine sX7_next_76 (Q0 := fun v M' => v = 0 ∧ M' = nq) hX (fun _ => go9) ?_ ?_ ?_ ?_
    · intro q9
      rw [hTn.1, nI_leI (by omega) (by omega)] at q9
      exact vp_in_nI (by omega) (by decide)
    · intro q9
      rw [hTn.1, nI_leI (by omega) (by omega)] at q9
      obtain ⟨c9, hc⟩ := tk_get (show tk_p tp b9 + (tk_ls tp b9).length < tp.length by omega)
      rw [nI_clamp (by omega), hTn.2 _ _ hc]
      have hf := tk_run_out (p := tk_L) hc
      refine pg_Ev.imp ?_ (rc_isLetter (by have := hk.2 _ _ hc; omega))
      rintro r9 M9 ⟨v9, g1, g2, g3⟩
      exact ⟨v9, g1, by rw [g2, hf]; rfl, g3⟩
    · rintro _ x9 Mq1 ⟨g1, g2⟩ _; rw [g2]; exact go9
    · rintro _ x9 Mq1 ⟨g1, g2⟩ q9; exact absurd g1 q9
  · rintro i9 nq hi ⟨c1, c2, c4⟩ ihq
    have hTn := c4.t hT
    obtain ⟨c9, hc, hc2, hc3⟩ := tk_run_in (p := tk_L) (tp := tp) (b9 := tk_p tp b9) hi
    have hc2 : (tk_ls tp b9)[i9]? = some c9 := hc2
    have hc8 := hk.2 _ _ hc
    have cq : ¬ nq.1 1 1 ≤ nI (tk_p tp b9 + i9) := by rw [hTn.1]; exact nI_ge (by omega) (by omega)
    have hcl : (nI (tk_p tp b9 + i9)).toNatClampNeg = tk_p tp b9 + i9 := nI_clamp (by omega)
    refine sX7_next_76 (Q0 := fun v M' => v = 1 ∧ M' = nq) hX (fun c => absurd c cq) (fun _ => vp_in_nI (by omega) (by decide)) (fun _ => ?_) ?_ ?_
    · rw [hcl, hTn.2 _ _ hc]
      refine pg_Ev.imp ?_ (rc_isLetter (by omega))
      rintro r9 M9 ⟨v9, g1, g2, g3⟩
      exact ⟨v9, g1, by rw [g2, hc3]; rfl, g3⟩
    · rintro _ x9 Mq1 ⟨g1, g2⟩ q9; rw [g1] at q9; exact absurd q9 (by decide)
    · rintro _ x9 Mq1 ⟨g1, g2⟩ _
      rw [g2, hcl, hTn.2 _ _ hc, c2, nI_1, nI_1]
      have h97 : 97 ≤ c9 := by unfold tk_L at hc3; simp only [Bool.and_eq_true, decide_eq_true_eq] at hc3; exact hc3.1
      have e97 : ((nI c9 - 97) + 1).toInt64 = lN (c9 - 96) := by
        rw [show (97 : Int32) = nI 97 from rfl, pk_sub h97, nI_1, nI_l (by omega)]
        congr 1; omega
      rw [e97, show (32 : Int64) = lN 32 from rfl, tk_lN_mul, tk_lN_add, ← tk_w_take hc2]
      refine ihq _ ⟨c1, by rw [pg_sj_at, pk_uLs], c4.trans rc_nf.sj⟩
theorem rc_next (hX : pg_isX7 Λ) (hT : rc_T M tp) (hk : tk_ok tp) (hb : b9 ≤ tp.length) (h3 : M.1 1 3 = nI b9) (h9 : M.1 1 9 = 0) : pg_Ev S Λ YX7_next (d + 3) [.ref 1] M (fun r M' => r = none ∧ rc_nx M M' tp b9) := by
  have hlen := hk.1
  have l1 : b9 + (tk_run tk_W tp b9).length ≤ tp.length := tk_run_le hb
  refine oX7_next (sX7_next_0 (d := d + 2) hX (fun _ => ?_) (fun c => absurd h9 c))
  rw [show (pg_si M 1 2 (M.1 1 3)).1 1 3 = nI (b9 + 0) by rw [pg_si_at, pk_un (by decide)]; exact h3]
  refine pg_loop (fun i9 (nq : pg_M) => pg_At S Λ YX7_next (d + 2 + 1) 21 [(0, .ref 1), (1, .int (nI (b9 + i9)))] [] nq _) (fun i9 nq => nq.1 1 2 = nI (b9 + i9) ∧ rc_nf M nq) (tk_run tk_W tp b9).length ?_ ?_ 0 _ (Nat.zero_le _) ⟨by rw [pg_si_at, pk_us]; exact h3, rc_nf.si (by omega)⟩
  · rintro nq ⟨c1, c4⟩
    have hTn := c4.t hT
    have go9 : pg_At S Λ YX7_next (d + 2 + 1) 76 [(0, .ref 1), (1, .int 0), (2, .int ((pg_sj nq 1 6 0).1 1 2))] [] (pg_sj nq 1 6 0) (fun r M' => r = none ∧ rc_nx M M' tp b9) := by
      have e2 : (pg_sj nq 1 6 0).1 1 2 = nI (tk_p tp b9 + 0) := c1
      rw [e2]
      exact rc_next2 hX hT hk hb e2 (by rw [pg_sj_at, pk_uLs]; rfl) (c4.trans rc_nf.sj)
    refine sX7_next_21 hX (fun _ => go9) ?_ ?_ (fun _ _ _ => go9) ?_
    · intro q9
      rw [hTn.1, nI_leI (by omega) (by omega)] at q9
      exact vp_in_nI (by omega) (by decide)
    · intro q9 q8
      rw [hTn.1, nI_leI (by omega) (by omega)] at q9
      obtain ⟨c9, hc⟩ := tk_get (show b9 + (tk_run tk_W tp b9).length < tp.length by omega)
      have hc8 := hk.2 _ _ hc
      rw [nI_clamp (by omega), hTn.2 _ _ hc, show (10 : Int32) = nI 10 from rfl, nI_eq (by omega) (by omega)] at q8
      have hf := tk_run_out (p := tk_W) hc
      rw [q8] at hf; exact absurd hf (by decide)
    · intro q9 _ q8
      rw [hTn.1, nI_leI (by omega) (by omega)] at q9
      obtain ⟨c9, hc⟩ := tk_get (show b9 + (tk_run tk_W tp b9).length < tp.length by omega)
      have hc8 := hk.2 _ _ hc
      rw [nI_clamp (by omega), hTn.2 _ _ hc, show (32 : Int32) = nI 32 from rfl, nI_eq (by omega) (by omega)] at q8
      have hf := tk_run_out (p := tk_W) hc
      rw [q8] at hf; exact absurd hf (by decide)
  · rintro i9 nq hi ⟨c1, c4⟩ ihq
    have hTn := c4.t hT
    obtain ⟨c9, hc, _, hc3⟩ := tk_run_in (p := tk_W) (tp := tp) (b9 := b9) hi
    have hc8 := hk.2 _ _ hc
    have cq : ¬ nq.1 1 1 ≤ nI (b9 + i9) := by rw [hTn.1]; exact nI_ge (by omega) (by omega)
    have hcl : (nI (b9 + i9)).toNatClampNeg = b9 + i9 := nI_clamp (by omega)
    have stp9 : pg_At S Λ YX7_next (d + 2 + 1) 21 [(0, .ref 1), (1, .int (nI (b9 + i9) + 1))] [] (pg_si nq 1 2 (nI (b9 + i9) + 1)) (fun r M' => r = none ∧ rc_nx M M' tp b9) := by
      rw [nI_1]
      exact ihq _ ⟨by rw [pg_si_at, pk_us]; rfl, c4.trans (rc_nf.si (by omega))⟩
    refine sX7_next_21 hX (fun c => absurd c cq) (fun _ => vp_in_nI (by omega) (by decide)) (fun _ _ => stp9) ?_ (fun _ _ _ => stp9)
    intro _ q1 q2
    rw [hcl, hTn.2 _ _ hc, show (10 : Int32) = nI 10 from rfl, nI_eq (by omega) (by omega)] at q1
    rw [hcl, hTn.2 _ _ hc, show (32 : Int32) = nI 32 from rfl, nI_eq (by omega) (by omega)] at q2
    unfold tk_W at hc3
    rw [decide_eq_false q1, decide_eq_false q2] at hc3
    cases hc3
theorem rc_next_f (hX : pg_isX7 Λ) (h9 : ¬ M.1 1 9 = 0) : pg_Ev S Λ YX7_next (d + 1) [.ref 1] M (fun r M' => r = none ∧ M' = M) :=
  oX7_next (sX7_next_0 hX (fun c => absurd c h9) (fun _ => ⟨rfl, rfl⟩))
end PGR
/-- where the reading stands: a fault, or a token -/
abbrev tk_st : Type := Except Nat Nat
def tk_place (tp : List Nat) (k9 : Nat) : Nat := tk_p tp (tk_i tp k9)
def tk_tok (tp : List Nat) (k9 : Nat) : Nat × List Nat := tk_t tp (tk_i tp k9)
def tk_next (z9 : tk_st) : tk_st := match z9 with
  | .error f9 => .error f9
  | .ok k9 => .ok (k9 + 1)
def tk_fail (tp : List Nat) (n9 : Nat) (z9 : tk_st) : tk_st := match z9 with
  | .error f9 => .error f9
  | .ok k9 => .error (n9 + 16 * tk_place tp k9)
/-- the Reader stands there -/
def rc_R (M : pg_M) (tp : List Nat) (z9 : tk_st) : Prop := rc_T M tp ∧ match z9 with
  | .error f9 => M.1 1 9 = nI f9 ∧ 0 < f9 ∧ f9 < 2 ^ 20
  | .ok k9 => M.1 1 9 = 0 ∧ rc_tok M (tk_tok tp k9) ∧ M.1 1 2 = nI (tk_place tp k9) ∧ M.1 1 3 = nI (tk_i tp (k9 + 1))
/-- and has changed itself alone -/
def rc_rf (M M' : pg_M) : Prop := pg_fr [1] M M' ∧ ∀ j9, j9 ≠ 2 → j9 ≠ 3 → j9 ≠ 4 → j9 ≠ 5 → j9 ≠ 7 → j9 ≠ 9 → M'.1 1 j9 = M.1 1 j9
theorem rc_rf.rfl' {M : pg_M} : rc_rf M M := ⟨pg_fr.rfl', fun _ _ _ _ _ _ _ => rfl⟩
theorem rc_rf.trans {M Mq1 Mq2 : pg_M} (g1 : rc_rf M Mq1) (g2 : rc_rf Mq1 Mq2) : rc_rf M Mq2 := ⟨g1.1.trans g2.1, fun j9 a1 a2 a3 a4 a5 a6 => (g2.2 j9 a1 a2 a3 a4 a5 a6).trans (g1.2 j9 a1 a2 a3 a4 a5 a6)⟩
theorem rc_nf.rf {M Mq1 : pg_M} (g1 : rc_nf M Mq1) : rc_rf M Mq1 := ⟨g1.1, fun j9 a1 a2 a3 a4 a5 _ => g1.2 j9 a1 a2 a3 a4 a5⟩
section PGR
variable {S : pg_S} {Λ : pg_L} {d n9 : Nat} {M : pg_M} {tp : List Nat} {z9 : tk_st}
theorem rc_rnext (hX : pg_isX7 Λ) (hk : tk_ok tp) (hR : rc_R M tp z9) : pg_Ev S Λ YX7_next (d + 3) [.ref 1] M (fun r M' => r = none ∧ (rc_R M' tp (tk_next z9) ∧ rc_rf M M')) := by
  obtain ⟨hT, hR⟩ := hR
  cases z9 with
  | error f9 =>
    obtain ⟨g1, g2, g3⟩ := hR
    refine pg_Ev.imp ?_ (pg_Ev.mono (by omega) (rc_next_f (d := 0) hX (by rw [g1]; exact nI_ne0 g2 (by omega))))
    rintro r9 M9 ⟨e1, e2⟩
    rw [e2]
    exact ⟨e1, ⟨hT, g1, g2, g3⟩, rc_rf.rfl'⟩
  | ok k9 =>
    obtain ⟨g1, g2, g3, g4⟩ := hR
    refine pg_Ev.imp ?_ (rc_next hX hT hk (tk_i_le _) g4 g1)
    rintro r9 M9 ⟨e1, e2, e3, e4, e5⟩
    exact ⟨e1, ⟨e5.t hT, by rw [e5.2 9 (by decide) (by decide) (by decide) (by decide) (by decide)]; exact g1, e2, e3, e4⟩, e5.rf⟩
theorem tk_place_le {k9 : Nat} : tk_place tp k9 ≤ tp.length := tk_p_le (tk_i_le _)
theorem rc_rfail (h0 : 0 < n9) (hn : n9 < 16) (hX : pg_isX7 Λ) (hk : tk_ok tp) (hR : rc_R M tp z9) : pg_Ev S Λ YX7_fail d [.ref 1, .int (nI n9)] M (fun r M' => r = none ∧ (rc_R M' tp (tk_fail tp n9 z9) ∧ rc_rf M M')) := by
  have hlen := hk.1
  obtain ⟨hT, hR⟩ := hR
  cases z9 with
  | error f9 =>
    obtain ⟨g1, g2, g3⟩ := hR
    exact oX7_fail (sX7_fail_0 hX (fun _ => ⟨rfl, ⟨hT, g1, g2, g3⟩, rc_rf.rfl'⟩) (fun c => by rw [g1] at c; exact absurd c (nI_ne0 g2 (by omega))))
  | ok k9 =>
    obtain ⟨g1, g2, g3, g4⟩ := hR
    have hp := tk_place_le (tp := tp) (k9 := k9)
    refine oX7_fail (sX7_fail_0 hX (fun c => absurd g1 c) (fun _ => ⟨rfl, ⟨?_, ?_, by omega, by omega⟩, pg_fr.si (by simp), fun j9 _ _ _ _ _ a6 => by rw [pg_si_at, pk_un a6]⟩))
    · unfold rc_T at hT ⊢
      rw [pg_si_at, pk_un (by decide), pg_si_ne (by decide)]; exact hT
    · rw [pg_si_at, pk_us, g3, show (16 : Int32) = nI 16 from rfl, pk_mul, nI_add]
end PGR
