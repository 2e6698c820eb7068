/-! LINES: how the reference holds what it reads -/
/-- a law that is read: as always, or its code from a place on, behind which 0 stands -/
def rm_rE (M : pg_M) (a9 q9 : Nat) (cs : List (Nat × Int32)) : Prop := (M.1 213 (106 + q9) = -1 ∧ cs = sp_def q9) ∨ ∃ fr, M.1 213 (106 + q9) = nI fr ∧ fr + cs.length < a9 ∧ M.1 214 (1100 + (fr + cs.length)) = 0 ∧ ∀ (j9 : Nat) (e9 : Nat × Int32), cs[j9]? = some e9 → M.1 214 (1100 + (fr + j9)) = nI e9.1 ∧ M.1 215 (1100 + (fr + j9)) = e9.2
def rm_rZ (M : pg_M) (a9 : Nat) (L9 : sp_N) (E9 : sp_E) (o9 : Nat) : Prop :=
  M.1 213 100 = nI (L9 4 0) ∧ M.1 213 101 = nI (L9 4 4) ∧ M.1 213 102 = nI (L9 4 3) ∧ M.1 213 103 = nI (L9 4 1) ∧ M.1 213 104 = nI (L9 4 2) ∧ M.1 213 105 = nI (L9 4 5) ∧
  (∀ c9 i9, c9 < L9 4 0 → i9 < 4 → M.1 213 (108 + 4 * c9 + i9) = nI (L9 i9 c9)) ∧ (∀ x9 y9, x9 < 6 → y9 < 6 → M.1 213 (132 + 6 * x9 + y9) = nI (L9 6 (6 * x9 + y9))) ∧
  (∀ p9, p9 < L9 4 4 → M.1 213 (168 + p9) = nI (L9 7 p9)) ∧ (∀ j9, j9 < L9 4 3 → M.1 213 (176 + j9) = nI (L9 5 j9)) ∧ rm_rE M a9 0 (E9 0) ∧ rm_rE M a9 1 (E9 1) ∧ M.1 207 13 = nI a9 ∧ M.1 207 18 = nI o9
def rm_rX (M : pg_M) (a9 : Nat) (X9 : rd_X) : Prop := rm_rZ M a9 X9.1 X9.2.1 X9.2.2.2 ∧ rm_rN M 1 (X9.1 4 0) X9.2.2.1
/-- what the reading of a line leaves as it was -/
def rm_lf (M M' : pg_M) : Prop := pg_fr [207, 213, 214, 215, 217] M M' ∧ (∀ j9, j9 ≠ 7 → j9 ≠ 8 → j9 ≠ 13 → j9 ≠ 17 → j9 ≠ 18 → M'.1 207 j9 = M.1 207 j9) ∧ (∀ j9, j9 < 100 → M'.1 213 j9 = M.1 213 j9) ∧ ∀ j9, j9 < 1100 → M'.1 214 j9 = M.1 214 j9 ∧ M'.1 215 j9 = M.1 215 j9
theorem rm_lf.rfl' {M : pg_M} : rm_lf M M := ⟨pg_fr.rfl', fun _ _ _ _ _ _ => rfl, fun _ _ => rfl, fun _ _ => ⟨rfl, rfl⟩⟩
theorem rm_lf.trans {M Mq1 Mq2 : pg_M} (g1 : rm_lf M Mq1) (g2 : rm_lf Mq1 Mq2) : rm_lf M Mq2 := ⟨g1.1.trans g2.1, fun j9 b1 b2 b3 b4 b5 => (g2.2.1 j9 b1 b2 b3 b4 b5).trans (g1.2.1 j9 b1 b2 b3 b4 b5), fun j9 hj => (g2.2.2.1 j9 hj).trans (g1.2.2.1 j9 hj), fun j9 hj => ⟨(g2.2.2.2 j9 hj).1.trans (g1.2.2.2 j9 hj).1, (g2.2.2.2 j9 hj).2.trans (g1.2.2.2 j9 hj).2⟩⟩
theorem rm_rf.lf {M M' : pg_M} (g1 : rm_rf M M') : rm_lf M M' := ⟨g1.1.mono (fun b9 hb => by simp at hb ⊢; omega), fun j9 b1 b2 _ _ _ => g1.2 j9 b1 b2, fun j9 _ => by rw [g1.1.1 213 (by decide)], fun j9 _ => ⟨by rw [g1.1.1 214 (by decide)], by rw [g1.1.1 215 (by decide)]⟩⟩
theorem rm_gf.lf {a9 : Nat} {M M' : pg_M} (g1 : rm_gf a9 M M') : rm_lf M M' := ⟨g1.1.mono (fun b9 hb => by simp at hb ⊢; omega), fun j9 b1 b2 b3 _ _ => g1.2.1 j9 b1 b2 b3, fun j9 _ => by rw [g1.1.1 213 (by decide)], fun j9 hj => g1.2.2 j9 (by omega)⟩
theorem rm_lf.s13 {M : pg_M} {k9 : Nat} {v9 : Int32} (hk : 100 ≤ k9) : rm_lf M (pg_si M 213 k9 v9) := ⟨pg_fr.si (by simp), fun j9 _ _ _ _ _ => by rw [pg_si_ne (by decide)], fun j9 hj => by rw [pg_si_at, pk_un (by omega)], fun j9 _ => ⟨by rw [pg_si_ne (by decide)], by rw [pg_si_ne (by decide)]⟩⟩
theorem rm_lf.s07 {M : pg_M} {k9 : Nat} {v9 : Int32} (hk : k9 = 7 ∨ k9 = 8 ∨ k9 = 13 ∨ k9 = 17 ∨ k9 = 18) : rm_lf M (pg_si M 207 k9 v9) := ⟨pg_fr.si (by simp), fun j9 b1 b2 b3 b4 b5 => by rw [pg_si_at, pk_un (by omega)], fun j9 _ => by rw [pg_si_ne (by decide)], fun j9 _ => ⟨by rw [pg_si_ne (by decide)], by rw [pg_si_ne (by decide)]⟩⟩
theorem rm_lf.sj {M : pg_M} {k9 : Nat} {v9 : Int64} : rm_lf M (pg_sj M 217 k9 v9) := ⟨pg_fr.sj (by simp), fun j9 _ _ _ _ _ => rfl, fun j9 _ => rfl, fun j9 _ => ⟨rfl, rfl⟩⟩
/-- what tokens need -/
theorem rm_R.fr9 {M M' : pg_M} {tp : List Nat} {n9 : Nat} {z9 : tk_st} (hR : rm_R M tp n9 z9) (e1 : M'.1 209 = M.1 209) (e2 : M'.1 210 = M.1 210) (e3 : M'.2.1 211 = M.2.1 211) (e4 : M'.2.1 212 = M.2.1 212) (e5 : M'.1 207 7 = M.1 207 7) (e6 : M'.1 207 8 = M.1 207 8) : rm_R M' tp n9 z9 := by
  unfold rm_R rm_tk rm_W at hR ⊢
  rw [e1, e2, e3, e4, e5, e6]
  exact hR
theorem rm_R.s13 {M : pg_M} {tp : List Nat} {n9 k9 : Nat} {z9 : tk_st} {v9 : Int32} (hR : rm_R M tp n9 z9) : rm_R (pg_si M 213 k9 v9) tp n9 z9 := hR.fr9 (pg_si_ne (by decide)) (pg_si_ne (by decide)) rfl rfl (by rw [pg_si_ne (by decide)]) (by rw [pg_si_ne (by decide)])
theorem rm_R.s07 {M : pg_M} {tp : List Nat} {n9 k9 : Nat} {z9 : tk_st} {v9 : Int32} (hR : rm_R M tp n9 z9) (h7 : k9 ≠ 7) (h8 : k9 ≠ 8) : rm_R (pg_si M 207 k9 v9) tp n9 z9 := hR.fr9 (pg_si_ne (by decide)) (pg_si_ne (by decide)) rfl rfl (by rw [pg_si_at, pk_un (Ne.symm h7)]) (by rw [pg_si_at, pk_un (Ne.symm h8)])
theorem rm_R.sj {M : pg_M} {tp : List Nat} {n9 k9 : Nat} {z9 : tk_st} {v9 : Int64} (hR : rm_R M tp n9 z9) : rm_R (pg_sj M 217 k9 v9) tp n9 z9 := hR.fr9 rfl rfl (by simp [pg_sj]) (by simp [pg_sj]) rfl rfl
theorem rm_rZ.mv {M M' : pg_M} {a9 o9 : Nat} {L9 : sp_N} {E9 : sp_E} (hz : rm_rZ M a9 L9 E9 o9) (e1 : M'.1 213 = M.1 213) (e2 : M'.1 214 = M.1 214) (e3 : M'.1 215 = M.1 215) (e4 : M'.1 207 13 = M.1 207 13) (e5 : M'.1 207 18 = M.1 207 18) : rm_rZ M' a9 L9 E9 o9 := by
  unfold rm_rZ rm_rE at hz ⊢
  rw [e1, e2, e3, e4, e5]
  exact hz
theorem rm_rZ.rf {M M' : pg_M} {a9 o9 : Nat} {L9 : sp_N} {E9 : sp_E} (hz : rm_rZ M a9 L9 E9 o9) (g : rm_rf M M') : rm_rZ M' a9 L9 E9 o9 := hz.mv (g.1.1 213 (by decide)) (g.1.1 214 (by decide)) (g.1.1 215 (by decide)) (g.2 13 (by decide) (by decide)) (g.2 18 (by decide) (by decide))
theorem rm_rX.rf {M M' : pg_M} {a9 : Nat} {X9 : rd_X} (hx : rm_rX M a9 X9) (g : rm_rf M M') : rm_rX M' a9 X9 := ⟨hx.1.rf g, hx.2.rf (by omega) g⟩
def rm_lp (a9 n9 : Nat) (tp : List Nat) (M : pg_M) (x9 : Except Nat (Nat × rd_X)) (M' : pg_M) : Prop := rm_lf M M' ∧ match x9 with
  | .ok y9 => rm_R M' tp n9 (.ok y9.1) ∧ rm_rX M' a9 y9.2
  | .error e9 => rm_R M' tp n9 (.error e9)
theorem rd_ok.nok {X9 : rd_X} (ho : rd_ok X9) : rd_nok (X9.1 4 0) X9.2.2.1 := ⟨ho.1.1, fun c9 hc => (ho.2.1.1 c9 hc).2, ho.2.1.2⟩
/-- a place of a cloth that is not counted yet -/
theorem rm_rZ.new {M : pg_M} {a9 o9 i9 : Nat} {v9 : Int32} {L9 : sp_N} {E9 : sp_E} (hz : rm_rZ M a9 L9 E9 o9) (h6 : L9 4 0 < 6) (hi : i9 < 4) : rm_rZ (pg_si M 213 (108 + 4 * L9 4 0 + i9) v9) a9 L9 E9 o9 := by
  obtain ⟨a1, a2, a3, a4, a5, a6, a7, a8, a9', a10, a11, a12, a13, a14⟩ := hz
  have ne : ∀ j9, j9 ≠ 108 + 4 * L9 4 0 + i9 → (pg_si M 213 (108 + 4 * L9 4 0 + i9) v9).1 213 j9 = M.1 213 j9 := fun j9 hj => by rw [pg_si_at, pk_un hj]
  have no : ∀ b9, b9 ≠ 213 → (pg_si M 213 (108 + 4 * L9 4 0 + i9) v9).1 b9 = M.1 b9 := fun b9 hb => pg_si_ne hb
  have ee : ∀ q9, q9 < 2 → rm_rE M a9 q9 (E9 q9) → rm_rE (pg_si M 213 (108 + 4 * L9 4 0 + i9) v9) a9 q9 (E9 q9) := fun q9 hq he => by
    unfold rm_rE at he ⊢
    rw [ne (106 + q9) (by omega), no 214 (by decide), no 215 (by decide)]; exact he
  refine ⟨by rw [ne _ (by omega)]; exact a1, by rw [ne _ (by omega)]; exact a2, by rw [ne _ (by omega)]; exact a3, by rw [ne _ (by omega)]; exact a4, by rw [ne _ (by omega)]; exact a5, by rw [ne _ (by omega)]; exact a6, fun c9 k9 hc hk => ?_, fun x9 y9 hx hy => ?_, fun p9 hp => ?_, fun j9 hj => ?_, ee 0 (by omega) a11, ee 1 (by omega) a12, by rw [no 207 (by decide)]; exact a13, by rw [no 207 (by decide)]; exact a14⟩
  · rw [ne _ (by omega)]; exact a7 c9 k9 hc hk
  · rw [ne _ (by omega)]; exact a8 x9 y9 hx hy
  · rw [ne _ (by omega)]; exact a9' p9 hp
  · rw [ne _ (by omega)]; exact a10 j9 hj
/-- the cloth is counted -/
theorem rm_rX.add {M : pg_M} {a9 : Nat} {X9 : rd_X} {g9 : Nat → Nat} {w9 : List Nat} (h6 : X9.1 4 0 < 6) (hz : rm_rZ M a9 X9.1 X9.2.1 X9.2.2.2) (hn : rm_rN M 1 (X9.1 4 0 + 1) (fun i9 => if i9 = X9.1 4 0 then w9 else X9.2.2.1 i9)) (t4 : ∀ j9, j9 < 4 → M.1 213 (108 + 4 * X9.1 4 0 + j9) = nI (g9 j9)) : rm_rX (pg_si M 213 100 ((M.1 213 100) + 1)) a9 (rd_addc X9 w9 (g9 0) (g9 1) (g9 2) (g9 3)) := by
  obtain ⟨a1, a2, a3, a4, a5, a6, a7, a8, a9', a10, a11, a12, a13, a14⟩ := hz
  have ne : ∀ j9, j9 ≠ 100 → (pg_si M 213 100 ((M.1 213 100) + 1)).1 213 j9 = M.1 213 j9 := fun j9 hj => by rw [pg_si_at, pk_un hj]
  have no : ∀ b9, b9 ≠ 213 → (pg_si M 213 100 ((M.1 213 100) + 1)).1 b9 = M.1 b9 := fun b9 hb => pg_si_ne hb
  have l40 : (rd_addc X9 w9 (g9 0) (g9 1) (g9 2) (g9 3)).1 4 0 = X9.1 4 0 + 1 := by simp [rd_addc, sp_up]
  have l4 : ∀ i9, i9 ≠ 0 → (rd_addc X9 w9 (g9 0) (g9 1) (g9 2) (g9 3)).1 4 i9 = X9.1 4 i9 := fun i9 z9 => by simp [rd_addc, sp_up, z9]
  have l5 : ∀ i9, (rd_addc X9 w9 (g9 0) (g9 1) (g9 2) (g9 3)).1 5 i9 = X9.1 5 i9 := fun i9 => by simp [rd_addc, sp_up]
  have l6 : ∀ i9, (rd_addc X9 w9 (g9 0) (g9 1) (g9 2) (g9 3)).1 6 i9 = X9.1 6 i9 := fun i9 => by simp [rd_addc, sp_up]
  have l7 : ∀ i9, (rd_addc X9 w9 (g9 0) (g9 1) (g9 2) (g9 3)).1 7 i9 = X9.1 7 i9 := fun i9 => by simp [rd_addc, sp_up]
  have ee : ∀ q9, q9 < 2 → rm_rE M a9 q9 (X9.2.1 q9) → rm_rE (pg_si M 213 100 ((M.1 213 100) + 1)) a9 q9 (X9.2.1 q9) := fun q9 hq he => by
    unfold rm_rE at he ⊢
    rw [ne (106 + q9) (by omega), no 214 (by decide), no 215 (by decide)]; exact he
  refine ⟨⟨?_, ?_, ?_, ?_, ?_, ?_, fun c9 k9 hc hk => ?_, fun x9 y9 hx hy => ?_, fun p9 hp => ?_, fun j9 hj => ?_, ee 0 (by omega) a11, ee 1 (by omega) a12, by rw [no 207 (by decide)]; exact a13, by rw [no 207 (by decide)]; exact a14⟩, ?_⟩
  · rw [pg_si_at, pk_us, a1, nI_1, l40]
  · rw [ne _ (by decide), l4 4 (by decide)]; exact a2
  · rw [ne _ (by decide), l4 3 (by decide)]; exact a3
  · rw [ne _ (by decide), l4 1 (by decide)]; exact a4
  · rw [ne _ (by decide), l4 2 (by decide)]; exact a5
  · rw [ne _ (by decide), l4 5 (by decide)]; exact a6
  · rw [l40] at hc
    rw [ne _ (by omega)]
    by_cases z9 : c9 = X9.1 4 0
    · subst z9
      rw [t4 k9 hk]
      rcases (show k9 = 0 ∨ k9 = 1 ∨ k9 = 2 ∨ k9 = 3 by omega) with rfl | rfl | rfl | rfl <;> simp [rd_addc, sp_up]
    · rw [a7 c9 k9 (by omega) hk]
      rcases (show k9 = 0 ∨ k9 = 1 ∨ k9 = 2 ∨ k9 = 3 by omega) with rfl | rfl | rfl | rfl <;> simp [rd_addc, sp_up, z9]
  · rw [ne _ (by omega), l6]; exact a8 x9 y9 hx hy
  · rw [l4 4 (by decide)] at hp
    rw [ne _ (by omega), l7]; exact a9' p9 hp
  · rw [l4 3 (by decide)] at hj
    rw [ne _ (by omega), l5]; exact a10 j9 hj
  · rw [l40]
    exact ⟨by rw [no 207 (by decide)]; exact hn.1, hn.2⟩
section PGR
variable {S : pg_S} {Λ : pg_L} {d n9 k9 a9 : Nat} {M : pg_M} {tp : List Nat} {X9 : rd_X}
/-- so far a cloth is read: its kind and i9 - 1 measures -/
def rm_st (a9 n9 k9 : Nat) (tp : List Nat) (X9 : rd_X) (w9 : List Nat) (M : pg_M) (i9 : Nat) (x9 : Except Nat (Nat → Nat)) (M' : pg_M) : Prop := rm_lf M M' ∧ match x9 with
  | .error e9 => rm_R M' tp n9 (.error e9)
  | .ok g9 => rm_R M' tp n9 (.ok (k9 + 1 + 2 * i9)) ∧ rm_rZ M' a9 X9.1 X9.2.1 X9.2.2.2 ∧ rm_rN M' 1 (X9.1 4 0 + 1) (fun i9 => if i9 = X9.1 4 0 then w9 else X9.2.2.1 i9) ∧ ∀ j9, j9 < i9 → M'.1 213 (108 + 4 * X9.1 4 0 + j9) = nI (g9 j9)
theorem rm_step {i9 lo hi : Nat} {w9 : List Nat} {x9 : Except Nat (Nat → Nat)} {Mq1 : pg_M} (h6 : X9.1 4 0 < 6) (hi1 : 1 ≤ i9) (hi3 : i9 ≤ 3) (hlo : lo < 2 ^ 31) (hhi : hi < 2 ^ 31) (hX : pg_isX11 Λ) (hk : tk_ok tp) (hs : rm_st a9 n9 k9 tp X9 w9 M i9 x9 Mq1) : pg_Ev S Λ YX11_takeAfter (d + 3) [.ref 207, .int (nI i9), .int (nI lo), .int (nI hi)] Mq1 (fun r M' => ∃ v, r = some (.int v) ∧ rm_st a9 n9 k9 tp X9 w9 M (i9 + 1) (rd_nx tp i9 lo hi k9 x9) (pg_si M' 213 (108 + 4 * X9.1 4 0 + i9) v)) := by
  obtain ⟨s1, s2⟩ := hs
  cases x9 with
  | error e9 =>
    refine pg_Ev.imp ?_ (rm_takeAfter_e (S := S) (d := d) (w9 := i9) (by omega) hX hk s2)
    rintro q9 M9 ⟨v9, y1, y2, y3⟩
    exact ⟨v9, y1, (s1.trans y3.lf).trans (rm_lf.s13 (by omega)), y2.s13⟩
  | ok g9 =>
    obtain ⟨t1, t2, t3, t4⟩ := s2
    refine pg_Ev.imp ?_ (rm_takeAfter (S := S) (d := d) (w9 := i9) (by omega) hlo hhi hX hk t1)
    rintro q9 M9 ⟨v9, y1, y2, y3⟩
    refine ⟨v9, y1, (s1.trans y2.lf).trans (rm_lf.s13 (by omega)), ?_⟩
    unfold rd_nx
    rw [rd_b_ok]
    cases hm : rd_meas tp i9 lo hi (k9 + 1 + 2 * i9) with
    | error e9 => rw [hm] at y3; exact y3.s13
    | ok b9 =>
      rw [hm] at y3
      have n9' := t3.rf (by omega) y2
      refine ⟨y3.1.s13, (t2.rf y2).new h6 (by omega), ⟨by rw [pg_si_ne (by decide)]; exact n9'.1, n9'.2⟩, fun j9 hj => ?_⟩
      rw [pg_si_at]
      by_cases z9 : j9 = i9
      · subst z9
        rw [pk_us, y3.2]
        show nI b9 = nI (if j9 = j9 then b9 else g9 j9)
        rw [if_pos rfl]
      · rw [pk_un (by omega), y2.1.1 213 (by decide)]
        show _ = nI (if j9 = i9 then b9 else g9 j9)
        rw [if_neg z9]
        exact t4 j9 (by omega)
end PGR
