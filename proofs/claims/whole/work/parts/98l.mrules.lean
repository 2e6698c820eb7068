/-! THE GRAMMAR of laws: what the reference's reading ends in -/
/-- what the reading of a law changes -/
def rm_gf (a9 : Nat) (M M' : pg_M) : Prop := pg_fr [207, 214, 215] M M' ∧ (∀ j9, j9 ≠ 7 → j9 ≠ 8 → j9 ≠ 13 → M'.1 207 j9 = M.1 207 j9) ∧ ∀ j9, j9 < 1100 + a9 → M'.1 214 j9 = M.1 214 j9 ∧ M'.1 215 j9 = M.1 215 j9
theorem rm_gf.rfl' {a9 : Nat} {M : pg_M} : rm_gf a9 M M := ⟨pg_fr.rfl', fun _ _ _ _ => rfl, fun _ _ => ⟨rfl, rfl⟩⟩
theorem rm_gf.trans {a9 : Nat} {M Mq1 Mq2 : pg_M} (g1 : rm_gf a9 M Mq1) (g2 : rm_gf a9 Mq1 Mq2) : rm_gf a9 M Mq2 := ⟨g1.1.trans g2.1, fun j9 b1 b2 b3 => (g2.2.1 j9 b1 b2 b3).trans (g1.2.1 j9 b1 b2 b3), fun j9 hj => ⟨(g2.2.2 j9 hj).1.trans (g1.2.2 j9 hj).1, (g2.2.2 j9 hj).2.trans (g1.2.2 j9 hj).2⟩⟩
theorem rm_rf.gf {a9 : Nat} {M Mq1 : pg_M} (g1 : rm_rf M Mq1) : rm_gf a9 M Mq1 := ⟨g1.1.mono (fun b9 hb9 => by simp at hb9 ⊢; omega), fun j9 b1 b2 _ => g1.2 j9 b1 b2, fun j9 _ => ⟨by rw [g1.1.1 214 (by decide)], by rw [g1.1.1 215 (by decide)]⟩⟩
theorem rm_ef.gf {a9 : Nat} {M Mq1 : pg_M} (g1 : rm_ef a9 M Mq1) : rm_gf a9 M Mq1 := ⟨g1.1, fun j9 _ _ b3 => g1.2.1 j9 b3, g1.2.2⟩
theorem rm_R.ef {a9 n9 : Nat} {M Mq1 : pg_M} {tp : List Nat} {z9 : tk_st} (hR : rm_R M tp n9 z9) (g1 : rm_ef a9 M Mq1) : rm_R Mq1 tp n9 z9 := by
  unfold rm_R rm_tk rm_W at hR ⊢
  rw [g1.1.1 209 (by decide), g1.1.1 210 (by decide), g1.1.2.1 211 (by decide), g1.1.2.1 212 (by decide), g1.2.1 7 (by decide), g1.2.1 8 (by decide)]
  exact hR
theorem rm_cd.rf {a9 : Nat} {M Mq1 : pg_M} {cs : List (Nat × Int32)} (hE : rm_cd M a9 cs) (g1 : rm_rf M Mq1) : rm_cd Mq1 a9 cs := by
  unfold rm_cd at hE ⊢
  rw [g1.2 13 (by decide) (by decide), g1.1.1 214 (by decide), g1.1.1 215 (by decide)]
  exact hE
/-- a fault: no more code was laid than tokens taken -/
def rm_lost (a9 n9 k9 l9 : Nat) (M : pg_M) : Prop := ∃ c9 e9, M.1 207 13 = nI (a9 + c9) ∧ M.1 207 7 = nI e9 ∧ e9 ≤ n9 ∧ c9 + k9 ≤ l9 + e9
def rm_gp (a9 n9 : Nat) (tp : List Nat) (k9 l9 : Nat) (M : pg_M) (x9 : Except Nat (Nat × List (Nat × Int32))) (M' : pg_M) : Prop := rm_gf a9 M M' ∧ match x9 with
  | .ok y9 => rm_R M' tp n9 (.ok y9.1) ∧ rm_cd M' a9 y9.2
  | .error e9 => rm_R M' tp n9 (.error e9) ∧ rm_lost a9 n9 k9 l9 M'
section PGR
variable {S : pg_S} {Λ : pg_L} {d a9 n9 : Nat} {M : pg_M} {tp : List Nat}
theorem rm_emit0 {b9 o9 : Nat} {v9 : Int32} (hX : pg_isX11 Λ) (hb : M.1 207 13 = nI b9) (hlt : b9 < 1100) (hab : a9 ≤ b9) : pg_Ev S Λ YX11_emit d [.ref 207, .int (nI o9), .int v9] M (fun r M' => r = none ∧ (M'.1 207 13 = nI (b9 + 1) ∧ rm_ef a9 M M')) := by
  have e1 : (1100 : Int32) + M.1 207 13 = nI (1100 + b9) := by rw [hb, show (1100 : Int32) = nI 1100 from rfl, nI_add]
  have ecl : (nI (1100 + b9)).toNatClampNeg = 1100 + b9 := nI_clamp (by omega)
  refine oX11_emit (sX11_emit_0 hX (by rw [e1]; exact vp_in_nI (by omega) (by decide)) (by rw [pg_si_ne (by decide), e1]; exact vp_in_nI (by omega) (by decide)) ?_)
  intro Nq1 eq1
  rw [pg_si_ne (show (207 : Nat) ≠ 214 by decide), e1, ecl] at eq1
  have r13 : Nq1.1 207 = M.1 207 := by rw [eq1, pg_si_ne (by decide), pg_si_ne (by decide)]
  have r14 : Nq1.1 214 = upd (M.1 214) (1100 + b9) (nI o9) := by rw [eq1, pg_si_ne (by decide), pg_si_at]
  have r15 : Nq1.1 215 = upd (M.1 215) (1100 + b9) v9 := by rw [eq1, pg_si_at, pg_si_ne (by decide)]
  refine ⟨rfl, ?_, ?_, fun j9 hj => ?_, fun j9 hj => ⟨?_, ?_⟩⟩
  · rw [pg_si_at, pk_us, r13, hb, nI_1]
  · rw [eq1]; exact ((pg_fr.si (by simp)).trans (pg_fr.si (by simp))).trans (pg_fr.si (by simp))
  · rw [pg_si_at, pk_un hj, r13]
  · rw [pg_si_ne (by decide), r14, pk_un (by omega)]
  · rw [pg_si_ne (by decide), r15, pk_un (by omega)]
/-- a joiner behind its right side -/
theorem rm_join {D8 k9 l9 o9 : Nat} {v9 : Int32} {Mq2 : pg_M} {y9 : Except Nat (Nat × List (Nat × Int32))} (hX : pg_isX11 Λ) (hal : a9 + l9 ≤ k9) (hn : n9 ≤ 1000) (hlen : ∀ k1 c1, y9 = .ok (k1, c1) → a9 + c1.length < 1100) (g : rm_gp a9 n9 tp (k9 + 1) l9 M y9 Mq2) : pg_Ev S Λ YX11_emit D8 [.ref 207, .int (nI o9), .int v9] Mq2 (fun q M' => q = none ∧ rm_gp a9 n9 tp k9 l9 M (gr_j (o9, v9) y9) M') := by
  obtain ⟨g3, g4⟩ := g
  cases y9 with
  | error e9 =>
    obtain ⟨g5, c9, f9, h1, h2, h3, h4⟩ := g4
    refine pg_Ev.imp ?_ (rm_emit0 (a9 := a9) hX h1 (by omega) (by omega))
    rintro q9 M9 ⟨y1, y2, y3⟩
    exact ⟨y1, g3.trans y3.gf, g5.ef y3, c9 + 1, f9, y2, by rw [y3.2.1 7 (by decide)]; exact h2, h3, by omega⟩
  | ok p9 =>
    refine pg_Ev.imp ?_ (rm_emit hX g4.2 (hlen p9.1 p9.2 rfl))
    rintro q9 M9 ⟨y1, y2, y3⟩
    exact ⟨y1, g3.trans y3.gf, g4.1.ef y3, y2⟩
end PGR
