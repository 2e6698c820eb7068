/-! TOKENS: the reference takes them -/
theorem pg_si_self (M : pg_M) (a9 k9 : Nat) : pg_si M a9 k9 (M.1 a9 k9) = M := by
  have e1 : (fun b9 => if b9 = a9 then upd (M.1 a9) k9 (M.1 a9 k9) else M.1 b9) = M.1 := by
    funext b9
    by_cases e : b9 = a9
    · subst e
      rw [if_pos rfl]
      funext j9
      by_cases z9 : j9 = k9
      · subst z9; rw [pk_us]
      · rw [pk_un z9]
    · rw [if_neg e]
  unfold pg_si
  rw [e1]
/-- the reference's reading changes where it stands and its fault -/
def rm_rf (M M' : pg_M) : Prop := pg_fr [207] M M' ∧ ∀ j9, j9 ≠ 7 → j9 ≠ 8 → M'.1 207 j9 = M.1 207 j9
theorem rm_rf.rfl' {M : pg_M} : rm_rf M M := ⟨pg_fr.rfl', fun _ _ _ => rfl⟩
theorem rm_rf.trans {M Mq1 Mq2 : pg_M} (g1 : rm_rf M Mq1) (g2 : rm_rf Mq1 Mq2) : rm_rf M Mq2 := ⟨g1.1.trans g2.1, fun j9 a1 a2 => (g2.2 j9 a1 a2).trans (g1.2 j9 a1 a2)⟩
theorem rm_rf.si {M : pg_M} {k9 : Nat} {v : Int32} (hk : k9 = 7 ∨ k9 = 8) : rm_rf M (pg_si M 207 k9 v) := ⟨pg_fr.si (by simp), fun j9 a1 a2 => by rw [pg_si_at, pk_un (by omega)]⟩
theorem rm_tk.rf {M M' : pg_M} {tp : List Nat} {j9 : Nat} (hh : rm_tk M tp j9) (g : rm_rf M M') : rm_tk M' tp j9 := by
  unfold rm_tk at hh ⊢
  rw [g.1.1 209 (by decide), g.1.1 210 (by decide), g.1.2.1 211 (by decide)]
  exact hh
theorem rm_W.rf {M M' : pg_M} (hh : rm_W M) (g : rm_rf M M') : rm_W M' := by
  unfold rm_W at hh ⊢
  rw [g.1.2.1 212 (by decide)]
  exact hh
section PGR
variable {S : pg_S} {Λ : pg_L} {d n9 : Nat} {M : pg_M} {tp : List Nat} {z9 : tk_st}
theorem rm_R.adv {k9 : Nat} (hR : rm_R M tp n9 (.ok k9)) (hn : (tk_tok tp k9).1 ≠ 0) : rm_R (pg_si M 207 7 ((M.1 207 7) + 1)) tp n9 (.ok (k9 + 1)) ∧ rm_rf M (pg_si M 207 7 ((M.1 207 7) + 1)) := by
  obtain ⟨h1, h2, h3, h4, g1, g2, g3⟩ := hR
  have f9 : rm_rf M (pg_si M 207 7 ((M.1 207 7) + 1)) := rm_rf.si (by omega)
  have lt : k9 < n9 := by
    rcases Nat.lt_or_ge k9 n9 with y9 | y9
    · exact y9
    · exact absurd (show (tk_tok tp k9).1 = 0 by rw [show k9 = n9 by omega]; exact h2) hn
  refine ⟨⟨h1, h2, fun j9 hj => (h3 j9 hj).rf f9, h4.rf f9, ?_, ?_, by omega⟩, f9⟩
  · rw [pg_si_at, pk_un (by decide)]; exact g1
  · rw [pg_si_at, pk_us, g2, nI_1]
theorem rm_wrong {m9 : Nat} (h0 : 0 < m9) (hm : m9 < 16) (hX : pg_isX11 Λ) (hk : tk_ok tp) (hR : rm_R M tp n9 z9) : pg_Ev S Λ YX11_wrong d [.ref 207, .int (nI m9)] M (fun r M' => r = none ∧ (rm_R M' tp n9 (tk_fail tp m9 z9) ∧ rm_rf M M' ∧ M'.1 207 7 = M.1 207 7)) := by
  have hlen := hk.1
  have hR0 := hR
  obtain ⟨h1, h2, h3, h4, h5⟩ := hR
  cases z9 with
  | error f9 =>
    obtain ⟨g1, g2, g3⟩ := h5
    have nf : ¬ M.1 207 8 = 0 := by rw [g1]; exact nI_ne0 g2 (by omega)
    exact oX11_wrong (sX11_wrong_0 hX (fun _ => ⟨rfl, hR0, rm_rf.rfl', rfl⟩) (fun c => absurd c nf) (fun c => absurd c nf))
  | ok k9 =>
    obtain ⟨g1, g2, g3⟩ := h5
    have hp := tk_place_le (tp := tp) (k9 := k9)
    have hcl : (nI k9).toNatClampNeg = k9 := nI_clamp (by omega)
    refine oX11_wrong (sX11_wrong_0 hX (fun c => absurd g1 c) (fun _ => by rw [g2]; exact vp_in_nI (by omega) (by decide)) (fun _ => ?_))
    rw [g2, hcl, (h3 k9 g3).2.1, show (16 : Int32) = nI 16 from rfl, pk_mul, nI_add]
    have f9 : rm_rf M (pg_si M 207 8 (nI (m9 + 16 * tk_place tp k9))) := rm_rf.si (by omega)
    refine ⟨rfl, ⟨h1, h2, fun j9 hj => (h3 j9 hj).rf f9, h4.rf f9, ?_, by omega, by omega⟩, f9, ?_⟩
    · rw [pg_si_at, pk_us]
    · rw [pg_si_at, pk_un (by decide), g2]
/-- past a sign that must stand there -/
def tk_exp (tp : List Nat) (c9 : Nat) (z9 : tk_st) : tk_st := if tk_isS tp c9 z9 = true then tk_next z9 else tk_fail tp 1 z9
theorem tk_isS_ok {c9 : Nat} (hh : tk_isS tp c9 z9 = true) : ∃ k9, z9 = .ok k9 ∧ tk_tok tp k9 = (4, [c9]) := by
  cases z9 with
  | error f9 => cases hh
  | ok k9 => exact ⟨k9, rfl, of_decide_eq_true hh⟩
theorem tk_isW_ok {w9 : Nat} (hh : tk_isW tp w9 z9 = true) : ∃ k9, z9 = .ok k9 ∧ tk_wd (tk_tok tp k9) = some w9 := by
  cases z9 with
  | error f9 => cases hh
  | ok k9 => exact ⟨k9, rfl, of_decide_eq_true hh⟩
theorem rm_takeSign {c9 : Nat} (hc : c9 < 128) (hX : pg_isX11 Λ) (hk : tk_ok tp) (hR : rm_R M tp n9 z9) : pg_Ev S Λ YX11_takeSign (d + 1) [.ref 207, .int (nI c9)] M (fun r M' => r = none ∧ (rm_R M' tp n9 (tk_exp tp c9 z9) ∧ rm_rf M M')) := by
  refine oX11_takeSign (sX11_takeSign_0 (Q0 := fun v M' => v = b2i (tk_isS tp c9 z9) ∧ M' = M) (Q1 := fun M' => rm_R M' tp n9 (tk_fail tp 1 z9) ∧ rm_rf M M' ∧ M'.1 207 7 = M.1 207 7) hX (rm_isSign hc hX hk hR) ?_ ?_ ?_)
  · rintro v9 Mq1 ⟨_, e9⟩ _
    rw [e9]; exact rm_wrong (m9 := 1) (by omega) (by omega) hX hk hR
  · rintro v9 Mq1 ⟨rfl, e9⟩ q9 Mq2 g9
    rw [b2i_0] at q9
    refine ⟨rfl, ?_, g9.2.1⟩
    unfold tk_exp
    rw [if_neg (by rw [q9]; decide)]; exact g9.1
  · rintro v9 Mq1 ⟨rfl, e9⟩ q9
    rw [b2i_0, Bool.not_eq_false] at q9
    obtain ⟨k9, rfl, hk9⟩ := tk_isS_ok q9
    rw [e9]
    obtain ⟨a1, a2⟩ := hR.adv (by rw [hk9]; simp)
    refine ⟨rfl, ?_, a2⟩
    unfold tk_exp
    rw [if_pos q9]; exact a1
/-- past a sign if it stands there -/
theorem rm_hasSign {c9 : Nat} (hc : c9 < 128) (hX : pg_isX11 Λ) (hk : tk_ok tp) (hR : rm_R M tp n9 z9) : pg_Ev S Λ YX11_hasSign (d + 1) [.ref 207, .int (nI c9)] M (fun r M' => ∃ v, r = some (.int v) ∧ (v = b2i (tk_isS tp c9 z9) ∧ rm_R M' tp n9 (if tk_isS tp c9 z9 = true then tk_next z9 else z9) ∧ rm_rf M M')) := by
  have e0 : pg_si M 207 7 ((M.1 207 7) + 0) = M := by
    have : (M.1 207 7) + 0 = M.1 207 7 := Int32.add_zero _
    rw [this]
    exact pg_si_self M 207 7
  refine oX11_hasSign (sX11_hasSign_0 (Q0 := fun v M' => v = b2i (tk_isS tp c9 z9) ∧ M' = M) hX (rm_isSign hc hX hk hR) ?_ ?_ ?_ ?_)
  · rintro v9 Mq1 ⟨rfl, e9⟩ q9
    rw [b2i_0] at q9
    rw [e9, e0]
    exact ⟨_, rfl, rfl, by rw [if_neg (by rw [q9]; decide)]; exact hR, rm_rf.rfl'⟩
  · rintro v9 Mq1 ⟨rfl, e9⟩ q9; rw [q9]; rfl
  · rintro v9 Mq1 ⟨rfl, e9⟩ q9
    rw [b2i_0, Bool.not_eq_false] at q9
    obtain ⟨k9, rfl, hk9⟩ := tk_isS_ok q9
    rw [e9]
    obtain ⟨a1, a2⟩ := hR.adv (by rw [hk9]; simp)
    exact ⟨_, rfl, rfl, by rw [if_pos q9]; exact a1, a2⟩
  · rintro v9 Mq1 ⟨rfl, e9⟩ q9
    rw [b2i_0, Bool.not_eq_false] at q9
    rw [q9]; rfl
theorem rm_hasWord {w9 : Nat} (hw : w9 < 26) (hX : pg_isX11 Λ) (hk : tk_ok tp) (hR : rm_R M tp n9 z9) : pg_Ev S Λ YX11_hasWord (d + 1) [.ref 207, .int (nI w9)] M (fun r M' => ∃ v, r = some (.int v) ∧ (v = b2i (tk_isW tp w9 z9) ∧ rm_R M' tp n9 (if tk_isW tp w9 z9 = true then tk_next z9 else z9) ∧ rm_rf M M')) := by
  have e0 : pg_si M 207 7 ((M.1 207 7) + 0) = M := by
    have : (M.1 207 7) + 0 = M.1 207 7 := Int32.add_zero _
    rw [this]
    exact pg_si_self M 207 7
  refine oX11_hasWord (sX11_hasWord_0 (Q0 := fun v M' => v = b2i (tk_isW tp w9 z9) ∧ M' = M) hX (rm_isWord hw hX hk hR) ?_ ?_ ?_ ?_)
  · rintro v9 Mq1 ⟨rfl, e9⟩ q9
    rw [b2i_0] at q9
    rw [e9, e0]
    exact ⟨_, rfl, rfl, by rw [if_neg (by rw [q9]; decide)]; exact hR, rm_rf.rfl'⟩
  · rintro v9 Mq1 ⟨rfl, e9⟩ q9; rw [q9]; rfl
  · rintro v9 Mq1 ⟨rfl, e9⟩ q9
    rw [b2i_0, Bool.not_eq_false] at q9
    obtain ⟨k9, rfl, hk9⟩ := tk_isW_ok q9
    rw [e9]
    obtain ⟨a1, a2⟩ := hR.adv (by rw [tk_wd_2 hk9]; decide)
    exact ⟨_, rfl, rfl, by rw [if_pos q9]; exact a1, a2⟩
  · rintro v9 Mq1 ⟨rfl, e9⟩ q9
    rw [b2i_0, Bool.not_eq_false] at q9
    rw [q9]; rfl
/-- which of some words stands there -/
def tk_here (tp : List Nat) (a9 m9 : Nat) (z9 : tk_st) : Int32 := match z9 with
  | .error _ => -1
  | .ok k9 => match tk_wd (tk_tok tp k9) with
    | none => -1
    | some j9 => if a9 ≤ j9 ∧ j9 < a9 + m9 then nI (j9 - a9) else -1
theorem rm_wordHere {a9 m9 : Nat} (ha : a9 + m9 ≤ 26) (hX : pg_isX11 Λ) (hk : tk_ok tp) (hR : rm_R M tp n9 z9) : pg_Ev S Λ YX11_wordHere (d + 1) [.ref 207, .int (nI a9), .int (nI m9)] M (fun r M' => ∃ v, r = some (.int v) ∧ (v = tk_here tp a9 m9 z9 ∧ M' = M)) := by
  refine oX11_wordHere (sX11_wordHere_0 ?_)
  have h00 : tk_here tp a9 0 z9 = -1 := by
    unfold tk_here
    cases z9 with
    | error f9 => rfl
    | ok k9 =>
      show (match tk_wd (tk_tok tp k9) with
        | none => -1
        | some j9 => if a9 ≤ j9 ∧ j9 < a9 + 0 then nI (j9 - a9) else -1) = (-1 : Int32)
      cases tk_wd (tk_tok tp k9) with
      | none => rfl
      | some j9 => show (if a9 ≤ j9 ∧ j9 < a9 + 0 then nI (j9 - a9) else -1) = (-1 : Int32); rw [if_neg (by omega)]
  rw [← h00]
  refine pg_loop (fun i9 (mq : pg_M) => pg_At S Λ YX11_wordHere (d + 1) 5 [(0, .ref 207), (1, .int (nI a9)), (2, .int (nI m9)), (3, .int (tk_here tp a9 i9 z9)), (4, .int (nI i9))] [] mq _) (fun i9 mq => mq = M) m9 ?_ ?_ 0 M (Nat.zero_le _) rfl
  · rintro mq em
    rw [em]
    have cq : nI m9 ≤ nI m9 := nI_le (Nat.le_refl _) (by omega)
    exact sX11_wordHere_5 (Q0 := fun _ _ => True) hX (fun _ => ⟨_, rfl, rfl, rfl⟩) (fun c => absurd cq c) (fun c => absurd cq c) (fun c => absurd cq c)
  · rintro i9 mq hi em ihq
    rw [em]
    have cq : ¬ nI m9 ≤ nI i9 := nI_ge hi (by omega)
    refine sX11_wordHere_5 (Q0 := fun v M' => v = b2i (tk_isW tp (a9 + i9) z9) ∧ M' = M) hX (fun c => absurd c cq) (fun _ => by rw [nI_add]; exact rm_isWord (by omega) hX hk hR) ?_ ?_
    · rintro _ v9 Mq1 ⟨rfl, e9⟩ q9
      rw [b2i_0] at q9
      have : tk_here tp a9 i9 z9 = tk_here tp a9 (i9 + 1) z9 := by
        cases z9 with
        | error f9 => rfl
        | ok k9 =>
          have q8 := of_decide_eq_false q9
          show (match tk_wd (tk_tok tp k9) with
            | none => -1
            | some j9 => if a9 ≤ j9 ∧ j9 < a9 + i9 then nI (j9 - a9) else -1) = (match tk_wd (tk_tok tp k9) with
            | none => (-1 : Int32)
            | some j9 => if a9 ≤ j9 ∧ j9 < a9 + (i9 + 1) then nI (j9 - a9) else -1)
          cases hw : tk_wd (tk_tok tp k9) with
          | none => rfl
          | some j9 =>
            have ne : j9 ≠ a9 + i9 := fun y9 => q8 (by rw [hw, y9])
            show (if a9 ≤ j9 ∧ j9 < a9 + i9 then nI (j9 - a9) else -1) = (if a9 ≤ j9 ∧ j9 < a9 + (i9 + 1) then nI (j9 - a9) else (-1 : Int32))
            by_cases y9 : a9 ≤ j9 ∧ j9 < a9 + i9
            · rw [if_pos y9, if_pos (by omega)]
            · rw [if_neg y9, if_neg (by omega)]
      rw [this, nI_1]
      exact ihq _ e9
    · rintro _ v9 Mq1 ⟨rfl, e9⟩ q9
      rw [b2i_0, Bool.not_eq_false] at q9
      obtain ⟨k9, rfl, hk9⟩ := tk_isW_ok q9
      have : nI i9 = tk_here tp a9 (i9 + 1) (.ok k9) := by
        show _ = (match tk_wd (tk_tok tp k9) with
            | none => (-1 : Int32)
            | some j9 => if a9 ≤ j9 ∧ j9 < a9 + (i9 + 1) then nI (j9 - a9) else -1)
        rw [hk9]
        show nI i9 = (if a9 ≤ a9 + i9 ∧ a9 + i9 < a9 + (i9 + 1) then nI (a9 + i9 - a9) else -1)
        rw [if_pos (by omega), Nat.add_sub_cancel_left]
      rw [nI_1, this]
      exact ihq _ e9
end PGR
