/-! LINES: the reference's loop over statements -/
/-- a line as always, as the reference lays it -/
def rm_al (k9 : Nat) : Int32 := if k9 = 2 then 1 else if k9 = 76 then 3 else if k9 = 3 then 20 else if k9 = 6 ∨ k9 = 7 then -1 else 0
section PGR
variable {S : pg_S} {Λ : pg_L} {d n9 : Nat} {M : pg_M} {tp : List Nat}
theorem rm_stands {b9 : Nat} (hb : b9 ≤ 100) (hX : pg_isX11 Λ) : pg_Ev S Λ YX11_standsAsAlways d [.ref 207, .int (nI b9)] M (fun q M' => q = none ∧ ((∀ k9, k9 < 100 → M'.1 213 (b9 + k9) = rm_al k9) ∧ (∀ j9, (j9 < b9 ∨ b9 + 100 ≤ j9) → M'.1 213 j9 = M.1 213 j9) ∧ pg_fr [213] M M')) := by
  refine oX11_standsAsAlways (sX11_standsAsAlways_0 ?_)
  have ix : ∀ k9 : Nat, k9 < 100 → (nI (b9 + k9)).toNatClampNeg = b9 + k9 := fun k9 _ => nI_clamp (by omega)
  have vin : ∀ k9 : Nat, k9 < 100 → vp_in (nI (b9 + k9)) 200 := fun k9 _ => vp_in_nI (by omega) (by decide)
  refine pg_loop (fun i9 (mq : pg_M) => pg_At S Λ YX11_standsAsAlways d 2 [(0, .ref 207), (1, .int (nI b9)), (2, .int (nI i9))] [] mq _) (fun i9 mq => (∀ k9, k9 < i9 → mq.1 213 (b9 + k9) = 0) ∧ (∀ j9, (j9 < b9 ∨ b9 + 100 ≤ j9) → mq.1 213 j9 = M.1 213 j9) ∧ pg_fr [213] M mq) 100 ?_ ?_ 0 M (by omega) ⟨fun k9 hk => absurd hk (by omega), fun _ _ => rfl, pg_fr.rfl'⟩
  · rintro mq ⟨a1, a2, a3⟩
    have cq : (100 : Int32) ≤ nI 100 := by decide
    have e2 : nI b9 + 2 = nI (b9 + 2) := by rw [show (2 : Int32) = nI 2 from rfl, nI_add]
    have e76 : nI b9 + 76 = nI (b9 + 76) := by rw [show (76 : Int32) = nI 76 from rfl, nI_add]
    have e3 : nI b9 + 3 = nI (b9 + 3) := by rw [show (3 : Int32) = nI 3 from rfl, nI_add]
    have e6 : nI b9 + 6 = nI (b9 + 6) := by rw [show (6 : Int32) = nI 6 from rfl, nI_add]
    refine sX11_standsAsAlways_2 hX (fun _ => by rw [e2]; exact vin 2 (by omega)) (fun _ => by rw [e76]; exact vin 76 (by omega)) (fun _ => by rw [e3]; exact vin 3 (by omega)) (fun _ _ _ => by rw [e6]; exact vin 6 (by omega)) (fun _ _ _ => by rw [e6, nI_1]; exact vin 7 (by omega)) (fun _ Nq1 eq1 => ?_) (fun c => absurd cq c) (fun c => absurd cq c)
    rw [e2, e76, e3, ix 2 (by omega), ix 76 (by omega), ix 3 (by omega)] at eq1
    rw [e6, nI_1, ix 6 (by omega), ix 7 (by omega), eq1]
    refine ⟨rfl, fun k9 hk => ?_, fun j9 hj => ?_, a3.trans (((((pg_fr.si (by simp)).trans (pg_fr.si (by simp))).trans (pg_fr.si (by simp))).trans (pg_fr.si (by simp))).trans (pg_fr.si (by simp)))⟩
    · unfold rm_al
      rw [pg_si_at, pg_si_at, pg_si_at, pg_si_at, pg_si_at]
      by_cases z7 : k9 = 7
      · subst z7; rw [pk_us]; rfl
      · rw [pk_un (by omega)]
        by_cases z6 : k9 = 6
        · subst z6; rw [pk_us]; rfl
        · rw [pk_un (by omega)]
          by_cases z3 : k9 = 3
          · subst z3; rw [pk_us]; rfl
          · rw [pk_un (by omega)]
            by_cases z76 : k9 = 76
            · subst z76; rw [pk_us]; rfl
            · rw [pk_un (by omega)]
              by_cases z2 : k9 = 2
              · subst z2; rw [pk_us]; rfl
              · rw [pk_un (by omega), if_neg z2, if_neg z76, if_neg z3, if_neg (by omega)]
                exact a1 k9 hk
    · rw [pg_si_at, pk_un (by omega), pg_si_at, pk_un (by omega), pg_si_at, pk_un (by omega), pg_si_at, pk_un (by omega), pg_si_at, pk_un (by omega)]
      exact a2 j9 hj
  · rintro i9 mq hi ⟨a1, a2, a3⟩ ihq
    have cq : ¬ (100 : Int32) ≤ nI i9 := nI_ge hi (by decide)
    refine sX11_standsAsAlways_2 hX (fun c => absurd c cq) (fun c => absurd c cq) (fun c => absurd c cq) (fun c => absurd c cq) (fun c => absurd c cq) (fun c => absurd c cq) (fun _ => by rw [nI_add]; exact vin i9 hi) (fun _ => ?_)
    rw [nI_add, ix i9 hi, nI_1]
    refine ihq _ ⟨fun k9 hk => ?_, fun j9 hj => ?_, a3.trans (pg_fr.si (by simp))⟩
    · rw [pg_si_at]
      by_cases z9 : k9 = i9
      · rw [z9, pk_us]
      · rw [pk_un (by omega)]; exact a1 k9 (by omega)
    · rw [pg_si_at, pk_un (by omega)]; exact a2 j9 hj
/-- what it reads begins as always -/
theorem rm_rX.zero (h1 : ∀ k9, k9 < 100 → M.1 213 (100 + k9) = rm_al k9) (h2 : M.1 207 13 = 0) (h3 : M.1 207 17 = 0) (h4 : M.1 207 18 = 0) : rm_rX M 0 rd_X0 := by
  have f9 : ∀ f9 k9, f9 = 100 + k9 → k9 < 100 → M.1 213 f9 = rm_al k9 := fun f9 k9 e9 hk => by rw [e9]; exact h1 k9 hk
  refine ⟨⟨f9 100 0 rfl (by omega), f9 101 1 rfl (by omega), f9 102 2 rfl (by omega), f9 103 3 rfl (by omega), f9 104 4 rfl (by omega), f9 105 5 rfl (by omega), fun c9 i9 hc => absurd hc (by show ¬ c9 < 0; omega), fun x9 y9 hx hy => ?_, fun p9 hp => absurd hp (by show ¬ p9 < 0; omega), fun j9 hj => ?_, Or.inl ⟨f9 106 6 rfl (by omega), rfl⟩, Or.inl ⟨f9 107 7 rfl (by omega), rfl⟩, h2, h4⟩, h3, fun c9 hc => absurd hc (by show ¬ c9 < 0; omega)⟩
  · rw [f9 (132 + 6 * x9 + y9) (32 + 6 * x9 + y9) (by omega) (by omega)]
    unfold rm_al
    rw [if_neg (by omega), if_neg (by omega), if_neg (by omega), if_neg (by omega)]
    simp [rd_X0]; rfl
  · have hj : j9 < 1 := hj
    obtain rfl : j9 = 0 := by omega
    exact f9 176 76 rfl (by omega)
theorem rm_semi {x9 : Except Nat (Nat × rd_X)} {Mq1 : pg_M} (hX : pg_isX11 Λ) (hk : tk_ok tp) (g : rm_lq n9 tp M x9 Mq1) : pg_Ev S Λ YX11_takeSign (d + 1) [.ref 207, .int 59] Mq1 (fun q M' => q = none ∧ rm_lq n9 tp M (rd_semi tp x9) M') := by
  obtain ⟨g1, g2⟩ := g
  cases x9 with
  | error e9 =>
    refine pg_Ev.imp ?_ (rm_takeSign (S := S) (d := d) (c9 := 59) (by omega) hX hk g2)
    rintro q7 M9 ⟨y1, y2, y3⟩
    exact ⟨y1, g1.trans y3.lf, y2⟩
  | ok p9 =>
    obtain ⟨g3, a8, g4, g5⟩ := g2
    refine pg_Ev.imp ?_ (rm_takeSign (S := S) (d := d) (c9 := 59) (by omega) hX hk g3)
    rintro q7 M9 ⟨y1, y2, y3⟩
    refine ⟨y1, g1.trans y3.lf, ?_⟩
    unfold rd_semi
    rw [rd_b_ok]
    unfold tk_exp at y2
    by_cases c9 : tk_tok tp p9.1 = (4, [59])
    · rw [show tk_isS tp 59 (.ok p9.1) = true from decide_eq_true c9, if_pos rfl] at y2
      rw [if_pos c9]
      exact ⟨y2, a8, by show a8 ≤ p9.1 + 1; omega, g5.rf y3⟩
    · rw [show tk_isS tp 59 (.ok p9.1) = false from decide_eq_false c9, if_neg (by decide)] at y2
      rw [if_neg c9]
      exact y2
theorem rm_line30 {P9 : Option Value → pg_M → Prop} (hX : pg_isX11 Λ) (hk : tk_ok tp) : ∀ f9 k9 a9 X9 Mq, a9 ≤ k9 → k9 ≤ tp.length → tp.length < f9 + k9 → rd_ok X9 → rm_R Mq tp n9 (.ok k9) → rm_rX Mq a9 X9 → rm_lf M Mq →
    (∀ Y9 a8 Mq2, rd_lines tp f9 k9 X9 = .ok Y9 → a8 ≤ tp.length → rm_rX Mq2 a8 Y9 → rm_lf M Mq2 → pg_At S Λ YX11_line (d + 36) 107 [(0, .ref 207), (1, .int 0)] [] Mq2 P9) →
    (∀ e9 Mq2, rd_lines tp f9 k9 X9 = .error e9 → rm_R Mq2 tp n9 (.error e9) → rm_lf M Mq2 → P9 (some (.int (nI e9))) Mq2) →
    pg_At S Λ YX11_line (d + 36) 30 [(0, .ref 207)] [] Mq P9 := by
  intro f9
  induction f9 with
  | zero => intro k9 a9 X9 Mq _ h1 h2; omega
  | succ f9 ih9 =>
    intro k9 a9 X9 Mq hak h1 h2 ho hR hx hf kok ker
    have s0 := hR.s0 hk
    by_cases c9 : (tk_tok tp k9).1 = 0
    · have he : rd_lines tp (f9 + 1) k9 X9 = .ok X9 := by simp only [rd_lines]; rw [if_pos c9]
      exact sX11_line_30 (Q0 := fun _ _ => True) (Q1 := fun _ _ => True) (Q2 := fun _ => True) (Q3 := fun _ => True) (Q4 := fun _ => True) (Q5 := fun _ => True) (Q6 := fun _ => True) (Q7 := fun _ => True) hX (fun c => absurd hR.z0 c) (fun c => absurd hR.z0 c) (fun _ => hR.vin) (fun _ _ _ => kok X9 a9 Mq he (by omega) hx hf) (fun _ _ c => absurd hR.f0 c) (fun _ c => absurd (s0.mpr c9) c) (fun _ c => absurd (s0.mpr c9) c) (fun _ c => absurd (s0.mpr c9) c) (fun _ c => absurd (s0.mpr c9) c) (fun _ c => absurd (s0.mpr c9) c) (fun _ c => absurd (s0.mpr c9) c) (fun _ c => absurd (s0.mpr c9) c) (fun _ c => absurd (s0.mpr c9) c) (fun _ c => absurd (s0.mpr c9) c) (fun _ c => absurd (s0.mpr c9) c) (fun _ c => absurd (s0.mpr c9) c)
    · have kl : k9 < tp.length := tk_in c9
      have m0 : ¬ Mq.1 209 (Mq.1 207 7).toNatClampNeg = 0 := fun c => c9 (s0.mp c)
      have he : rd_lines tp (f9 + 1) k9 X9 = rd_b (rd_semi tp (rd_stmt tp k9 X9)) (fun r9 => rd_lines tp f9 r9.1 r9.2) := by
        conv => lhs; simp only [rd_lines]
        rw [if_neg c9]
      have i0 := rm_isWord (S := S) (Λ := Λ) (d := d + 35) (w9 := 0) (by omega) hX hk hR
      have i8 := rm_isWord (S := S) (Λ := Λ) (d := d + 35) (w9 := 8) (by omega) hX hk hR
      have sem : ∀ Mq2, rm_lq n9 tp M (rd_stmt tp k9 X9) Mq2 → pg_Ev S Λ YX11_takeSign (d + 35) [.ref 207, .int 59] Mq2 (fun q M' => q = none ∧ rm_lq n9 tp M (rd_semi tp (rd_stmt tp k9 X9)) M') := fun Mq2 g => pg_Ev.mono (by omega) (rm_semi (d := d) hX hk g)
      have goon : ∀ Mq2, rm_lq n9 tp M (rd_semi tp (rd_stmt tp k9 X9)) Mq2 → pg_At S Λ YX11_line (d + 36) 30 [(0, .ref 207)] [] Mq2 P9 := by
        rintro Mq2 ⟨g1, g2⟩
        cases hs : rd_semi tp (rd_stmt tp k9 X9) with
        | error e9 =>
          rw [hs] at g2 he
          rw [rd_b_er] at he
          have fin9 : P9 (some (.int (Mq2.1 207 8))) Mq2 := by
            have := ker e9 Mq2 he g2 g1
            obtain ⟨_, _, _, _, z1, _⟩ := g2
            rw [z1]; exact this
          exact sX11_line_30 (Q0 := fun _ _ => True) (Q1 := fun _ _ => True) (Q2 := fun _ => True) (Q3 := fun _ => True) (Q4 := fun _ => True) (Q5 := fun _ => True) (Q6 := fun _ => True) (Q7 := fun _ => True) hX (fun _ c => absurd c g2.fle) (fun _ _ => fin9) (fun c => absurd c g2.e0) (fun c => absurd c g2.e0) (fun c => absurd c g2.e0) (fun c => absurd c g2.e0) (fun c => absurd c g2.e0) (fun c => absurd c g2.e0) (fun c => absurd c g2.e0) (fun c => absurd c g2.e0) (fun c => absurd c g2.e0) (fun c => absurd c g2.e0) (fun c => absurd c g2.e0) (fun c => absurd c g2.e0) (fun c => absurd c g2.e0) (fun c => absurd c g2.e0)
        | ok p9 =>
          rw [hs] at g2 he
          rw [rd_b_ok] at he
          obtain ⟨g3, a8, g4, g5⟩ := g2
          obtain ⟨z1, z2, z3⟩ := rd_stmt_ok ho hs
          exact ih9 p9.1 a8 p9.2 Mq2 g4 z3 (by omega) z1 g3 g5 g1 (fun Y9 a7 Mq3 h => kok Y9 a7 Mq3 (by rw [he]; exact h)) (fun e9 Mq3 h => ker e9 Mq3 (by rw [he]; exact h))
      by_cases w0 : tk_wd (tk_tok tp k9) = some 0
      · rw [show tk_isW tp 0 (.ok k9) = true from decide_eq_true w0] at i0
        have hst : rd_stmt tp k9 X9 = rd_cloth tp k9 X9 := by unfold rd_stmt; rw [w0]; rfl
        have rc : pg_Ev S Λ YX11_readCloth (d + 35) [.ref 207] Mq (fun q M' => q = none ∧ rm_lq n9 tp M (rd_stmt tp k9 X9) M') := by
          refine pg_Ev.mono (by omega) (pg_Ev.imp ?_ (rm_readCloth (S := S) (d := d) hX hk ho c9 hR hx))
          rintro q7 M9 ⟨y1, y2⟩
          rw [hst]
          have y3 : rm_lq n9 tp Mq (rd_cloth tp k9 X9) M9 := rm_lp.q y2 (fun y9 hy => by have := (rd_cloth_ok ho hy).2.1; omega)
          exact ⟨y1, hf.trans y3.1, y3.2⟩
        exact sX11_line_30 (Q0 := fun v M' => v = b2i true ∧ M' = Mq) (Q1 := fun _ _ => True) (Q2 := fun _ => True) (Q3 := fun _ => True) (Q4 := fun _ => True) (Q5 := fun _ => True) (Q6 := fun M' => rm_lq n9 tp M (rd_stmt tp k9 X9) M') (Q7 := fun M' => rm_lq n9 tp M (rd_semi tp (rd_stmt tp k9 X9)) M') hX (fun c => absurd hR.z0 c) (fun c => absurd hR.z0 c) (fun _ => hR.vin) (fun _ c => absurd c m0) (fun _ c => absurd c m0) (fun _ _ => i0) (fun _ _ v9 Mq2 y9 c => by rw [y9.1] at c; exact absurd c (by decide)) (fun _ _ v9 Mq2 y9 c => by rw [y9.1] at c; exact absurd c (by decide)) (fun _ _ v9 Mq2 y9 c => by rw [y9.1] at c; exact absurd c (by decide)) (fun _ _ v9 Mq2 y9 c => by rw [y9.1] at c; exact absurd c (by decide)) (fun _ _ v9 Mq2 y9 c => by rw [y9.1] at c; exact absurd c (by decide)) (fun _ _ v9 Mq2 y9 c => by rw [y9.1] at c; exact absurd c (by decide)) (fun _ _ v9 Mq2 y9 c => by rw [y9.1] at c; exact absurd c (by decide)) (fun _ _ v9 Mq2 y9 _ => by rw [y9.2]; exact rc) (fun _ _ v9 Mq2 _ _ Mq3 g9 => sem Mq3 g9) (fun _ _ v9 Mq2 _ _ Mq3 _ Mq4 g9 => goon Mq4 g9)
      · rw [show tk_isW tp 0 (.ok k9) = false from decide_eq_false w0] at i0
        by_cases w8 : tk_wd (tk_tok tp k9) = some 8
        · rw [show tk_isW tp 8 (.ok k9) = true from decide_eq_true w8] at i8
          have hst : rd_stmt tp k9 X9 = rd_clash tp k9 X9 := by unfold rd_stmt; rw [w8]; rfl
          have rc : pg_Ev S Λ YX11_readClash (d + 35) [.ref 207] Mq (fun q M' => q = none ∧ rm_lq n9 tp M (rd_stmt tp k9 X9) M') := by
            refine pg_Ev.mono (by omega) (pg_Ev.imp ?_ (rm_readClash (S := S) (d := d) hX hk ho c9 hR hx))
            rintro q7 M9 ⟨y1, y2⟩
            rw [hst]
            have y3 : rm_lq n9 tp Mq (rd_clash tp k9 X9) M9 := rm_lp.q y2 (fun y9 hy => by have := (rd_clash_ok ho hy).2.1; omega)
            exact ⟨y1, hf.trans y3.1, y3.2⟩
          exact sX11_line_30 (Q0 := fun v M' => v = b2i false ∧ M' = Mq) (Q1 := fun v M' => v = b2i true ∧ M' = Mq) (Q2 := fun _ => True) (Q3 := fun _ => True) (Q4 := fun M' => rm_lq n9 tp M (rd_stmt tp k9 X9) M') (Q5 := fun M' => rm_lq n9 tp M (rd_semi tp (rd_stmt tp k9 X9)) M') (Q6 := fun _ => True) (Q7 := fun _ => True) hX (fun c => absurd hR.z0 c) (fun c => absurd hR.z0 c) (fun _ => hR.vin) (fun _ c => absurd c m0) (fun _ c => absurd c m0) (fun _ _ => i0) (fun _ _ v9 Mq2 y9 _ => by rw [y9.2]; exact i8) (fun _ _ v9 Mq2 _ _ v8 Mq3 y9 c => by rw [y9.1] at c; exact absurd c (by decide)) (fun _ _ v9 Mq2 _ _ v8 Mq3 y9 c => by rw [y9.1] at c; exact absurd c (by decide)) (fun _ _ v9 Mq2 _ _ v8 Mq3 y9 c => by rw [y9.1] at c; exact absurd c (by decide)) (fun _ _ v9 Mq2 _ _ v8 Mq3 y9 _ => by rw [y9.2]; exact rc) (fun _ _ v9 Mq2 _ _ v8 Mq3 _ _ Mq4 g9 => sem Mq4 g9) (fun _ _ v9 Mq2 _ _ v8 Mq3 _ _ Mq4 _ Mq5 g9 => goon Mq5 g9) (fun _ _ v9 Mq2 y9 c => absurd y9.1 c) (fun _ _ v9 Mq2 y9 c => absurd y9.1 c) (fun _ _ v9 Mq2 y9 c => absurd y9.1 c)
        · rw [show tk_isW tp 8 (.ok k9) = false from decide_eq_false w8] at i8
          have rc : pg_Ev S Λ YX11_readOnce (d + 35) [.ref 207] Mq (fun q M' => q = none ∧ rm_lq n9 tp M (rd_stmt tp k9 X9) M') := by
            refine pg_Ev.mono (by omega) (pg_Ev.imp ?_ (rm_readOnce (S := S) (d := d) hak hX hk ho c9 w0 w8 hR hx))
            rintro q7 M9 ⟨y1, y2⟩
            exact ⟨y1, hf.trans y2.1, y2.2⟩
          exact sX11_line_30 (Q0 := fun v M' => v = b2i false ∧ M' = Mq) (Q1 := fun v M' => v = b2i false ∧ M' = Mq) (Q2 := fun M' => rm_lq n9 tp M (rd_stmt tp k9 X9) M') (Q3 := fun M' => rm_lq n9 tp M (rd_semi tp (rd_stmt tp k9 X9)) M') (Q4 := fun _ => True) (Q5 := fun _ => True) (Q6 := fun _ => True) (Q7 := fun _ => True) hX (fun c => absurd hR.z0 c) (fun c => absurd hR.z0 c) (fun _ => hR.vin) (fun _ c => absurd c m0) (fun _ c => absurd c m0) (fun _ _ => i0) (fun _ _ v9 Mq2 y9 _ => by rw [y9.2]; exact i8) (fun _ _ v9 Mq2 _ _ v8 Mq3 y9 _ => by rw [y9.2]; exact rc) (fun _ _ v9 Mq2 _ _ v8 Mq3 _ _ Mq4 g9 => sem Mq4 g9) (fun _ _ v9 Mq2 _ _ v8 Mq3 _ _ Mq4 _ Mq5 g9 => goon Mq5 g9) (fun _ _ v9 Mq2 _ _ v8 Mq3 y9 c => absurd y9.1 c) (fun _ _ v9 Mq2 _ _ v8 Mq3 y9 c => absurd y9.1 c) (fun _ _ v9 Mq2 _ _ v8 Mq3 y9 c => absurd y9.1 c) (fun _ _ v9 Mq2 y9 c => absurd y9.1 c) (fun _ _ v9 Mq2 y9 c => absurd y9.1 c) (fun _ _ v9 Mq2 y9 c => absurd y9.1 c)
end PGR
